/-! PURE 9: the model's eye and shutter, counts -/
def zL (ml : Nat → Int) (sz : Int) (od se : Nat → Int) : Prop := ∀ k : Nat, k < 64 → ml k = zlit sz od se k
theorem zL_i {ml : Nat → Int} {sz : Int} {od se : Nat → Int} (hL : zL ml sz od se) {x : Int} (hx : 0 ≤ x ∧ x < 64) : ml x.toNat = zlit sz od se x := by
  rw [hL _ (by omega), show ((x.toNat : Nat) : Int) = x by omega]
theorem s_X5_brightnessAt {spot tick : Int} {ms ml : Nat → Int} {sz : Int} {ph od : Nat → Int} {pi : Nat → Int64} {se : Nat → Int} {Φ : Int → Prop} (hG : zG ms sz ph od pi se) (hL : zL ml sz od se) (hsp : 0 ≤ spot ∧ spot < 64) (ht : 0 ≤ tick ∧ tick < se 0) (h : Φ (zshine ph (se 0) (zlit sz od se spot) spot tick)) : wp_X5_brightnessAt spot tick ms ml Φ := by
  obtain ⟨hR, ho, hs, hph⟩ := hG
  obtain ⟨s0, s1, -⟩ := hs
  have hl := zlit_b ho s1 spot
  have hm := zL_i hL hsp
  have hp := hph spot.toNat (by omega)
  unfold zshine at h
  unfold wp_X5_brightnessAt wp_X5_brightnessAt_47
  refine ⟨hsp, fun v2 e2 => ?_⟩
  rw [hm] at e2
  refine ⟨⟨(qR_i (by omega) (by omega)), (qR_i (by omega) (by omega))⟩, fun c => ⟨hsp, fun v4 e4 v5 e5 => ⟨⟨by omega, by omega⟩, fun v6 e6 => ?_⟩⟩, fun c => ?_⟩
  · rw [zR_ph hR hsp] at e6
    rw [hm] at e4
    rw [if_neg (by omega), ← e4] at h
    refine ⟨(qR_i (by omega) (by omega)), fun c2 => ?_, fun c2 => ⟨by decide, fun v8 e8 => ?_⟩⟩
    · rw [if_pos (by omega), ← e5, ← e6] at h
      exact s_X5_fading (by rw [e6]; exact hp) ⟨by omega, by omega⟩ h
    · have e8 : v8 = se 0 := e8.trans (hR.1 0 (by decide))
      rw [if_neg (by omega), ← e5, ← e6, ← e8] at h
      exact s_X5_fading (by rw [e6]; exact hp) ⟨by omega, by omega⟩ h
  · rwa [if_pos (by omega)] at h
theorem s_X5_eyeMean {spot : Int} {ms ml : Nat → Int} {sz : Int} {ph od : Nat → Int} {pi : Nat → Int64} {se : Nat → Int} {Φ : Int → Prop} (hG : zG ms sz ph od pi se) (hL : zL ml sz od se) (hsp : 0 ≤ spot ∧ spot < 64) (h : Φ (zmean sz ph od se 0 (se 0) spot)) : wp_X5_eyeMean spot ms ml Φ := by
  have hG' := hG
  obtain ⟨hR, ho, hs, hph⟩ := hG'
  have hs' := hs
  obtain ⟨s0, s1, -⟩ := hs'
  have hl := zlit_b ho s1 spot
  have hm := (zmean_b (start := 0) (len := se 0) (spot := spot) (ph := ph) ho hs ⟨by omega, by omega⟩).1
  unfold wp_X5_eyeMean
  refine zl2 (fun a i => 0 ≤ i ∧ i ≤ se 0 ∧ a = zsum (zshine ph (se 0) (zlit sz od se spot) spot) (se 0) 0 i.toNat) (fun a i => se 0 - i) (fun n a i hi ih => ?_) _ _ ⟨by omega, by omega, rfl⟩
  obtain ⟨h1, h2, h3⟩ := hi
  unfold wp_X5_eyeMean_4
  refine ⟨by decide, fun v1 e1 => ?_⟩
  have e1 : v1 = se 0 := e1.trans (hR.1 0 (by decide))
  refine ⟨⟨(qR_i (by omega) (by omega)), (qR_i (by omega) (by omega))⟩, fun c => ⟨by decide, fun v3 e3 => ?_⟩, fun c => s_X5_brightnessAt hG hL hsp ⟨by omega, by omega⟩ (fun v6 e6 v7 e7 => ?_)⟩
  · have e3 : v3 = se 0 := e3.trans (hR.1 0 (by decide))
    rw [show i.toNat = (se 0).toNat by omega] at h3
    rw [← h3] at hm
    refine ⟨qP_i (by omega) (by omega) (by omega) (by omega), fun v4 e4 => ?_⟩
    rw [e4, e3, h3]
    exact h
  · rw [e7]
    refine ih _ _ ⟨by omega, by omega, ?_⟩ (show (se 0 - (i + 1)).toNat < (se 0 - i).toNat by omega)
    rw [show (i + 1).toNat = i.toNat + 1 by omega, zsum, ← h3, e6, show (0 : Int) + ((i.toNat : Nat) : Int) = i by omega, Int.emod_eq_of_lt h1 (by omega)]
theorem s_X5_shutterMean {spot start len : Int} {ms ml : Nat → Int} {sz : Int} {ph od : Nat → Int} {pi : Nat → Int64} {se : Nat → Int} {Φ : Int → Prop} (hG : zG ms sz ph od pi se) (hL : zL ml sz od se) (hsp : 0 ≤ spot ∧ spot < 64) (hst : 0 ≤ start ∧ start < 1000) (hlen : 1 ≤ len ∧ len ≤ 1000) (h : Φ (zmean sz ph od se start len spot)) : wp_X5_shutterMean spot start len ms ml Φ := by
  have hG' := hG
  obtain ⟨hR, ho, hs, hph⟩ := hG'
  have hs' := hs
  obtain ⟨s0, s1, -⟩ := hs'
  have hl := zlit_b ho s1 spot
  have hm := (zmean_b (start := start) (len := len) (spot := spot) (ph := ph) ho hs ⟨by omega, by omega⟩).1
  unfold wp_X5_shutterMean
  refine zl2 (fun a i => 0 ≤ i ∧ i ≤ len ∧ a = zsum (zshine ph (se 0) (zlit sz od se spot) spot) (se 0) start i.toNat) (fun a i => len - i) (fun n a i hi ih => ?_) _ _ ⟨by omega, by omega, rfl⟩
  obtain ⟨h1, h2, h3⟩ := hi
  unfold wp_X5_shutterMean_6
  refine ⟨⟨(qR_i (by omega) (by omega)), (qR_i (by omega) (by omega))⟩, fun c => ?_, fun c => ⟨by decide, fun v3 e3 => ?_⟩⟩
  · rw [show i.toNat = len.toNat by omega] at h3
    rw [← h3] at hm
    refine ⟨qP_i (by omega) (by omega) (by omega) (by omega), fun v4 e4 => ?_⟩
    rw [e4, h3]
    exact h
  · have e3 : v3 = se 0 := e3.trans (hR.1 0 (by decide))
    refine ⟨qP_i (by omega) (by omega) (by omega) (by omega), fun v4 e4 => ?_⟩
    have ht : 0 ≤ v4 ∧ v4 < se 0 := by rw [e4, e3]; exact ⟨Int.emod_nonneg _ (by omega), Int.emod_lt_of_pos _ (by omega)⟩
    refine s_X5_brightnessAt hG hL hsp ht (fun v6 e6 v7 e7 => ?_)
    rw [e7]
    refine ih _ _ ⟨by omega, by omega, ?_⟩ (show (len - (i + 1)).toNat < (len - i).toNat by omega)
    rw [show (i + 1).toNat = i.toNat + 1 by omega, zsum, ← h3, e6, show ((i.toNat : Nat) : Int) = i by omega, ← e3, ← e4]
theorem zsum_mod {f : Int → Int} {per s : Int} : ∀ n : Nat, zsum f per (s % per) n = zsum f per s n
  | 0 => rfl
  | n + 1 => by rw [zsum, zsum, zsum_mod n, Int.emod_add_emod]
theorem zmean_mod {sz : Int} {ph od se : Nat → Int} {s len : Int} : zmean sz ph od se (s % se 0) len = zmean sz ph od se s len := by
  funext spot
  unfold zmean
  rw [zsum_mod]
theorem zsee_b (m : Int → Int) (b : Int) (k : Nat) : zsee m b k = 0 ∨ zsee m b k = 1 := by
  unfold zsee
  split
  · exact Or.inr rfl
  · exact Or.inl rfl
theorem zne_b (a b : Int) : zne a b = 0 ∨ zne a b = 1 := by
  unfold zne
  split
  · exact Or.inl rfl
  · exact Or.inr rfl
theorem s_X5_isEyed {spot : Int} {ms ml : Nat → Int} {sz : Int} {ph od : Nat → Int} {pi : Nat → Int64} {se : Nat → Int} {Φ : Int → Prop} (hG : zG ms sz ph od pi se) (hL : zL ml sz od se) (hsp : 0 ≤ spot ∧ spot < 64) (h : Φ (zsee (zmean sz ph od se 0 (se 0)) (se 2) spot.toNat)) : wp_X5_isEyed spot ms ml Φ := by
  have hG' := hG
  obtain ⟨hR, ho, hs, hph⟩ := hG'
  have hs' := hs
  obtain ⟨s0, s1, s2, -⟩ := hs'
  have hl := zlit_b ho s1 spot
  have hm := zL_i hL hsp
  have hb := (zmean_b (start := 0) (len := se 0) (spot := spot) (ph := ph) ho hs ⟨by omega, by omega⟩).2
  unfold zsee at h
  rw [show ((spot.toNat : Nat) : Int) = spot by omega] at h
  unfold wp_X5_isEyed wp_X5_isEyed_29 wp_X5_isEyed_30
  refine ⟨hsp, fun v1 e1 => ?_⟩
  rw [hm] at e1
  refine ⟨⟨(qR_i (by omega) (by omega)), (qR_i (by omega) (by omega))⟩, fun c => ⟨Or.inl rfl, ?_⟩, fun c => s_X5_eyeMean hG hL hsp ⟨by decide, fun v4 e4 => ?_⟩⟩
  · rw [zmean_dark (by omega), if_neg (by omega)] at h
    exact h
  · have e4 : v4 = se 2 := e4.trans (hR.1 2 (by decide))
    refine ⟨⟨(qR_i (by omega) (by omega)), (qR_i (by omega) (by omega))⟩, fun c2 => ⟨Or.inl rfl, ?_⟩, fun c2 => ⟨Or.inr rfl, ?_⟩⟩
    · rwa [if_neg (by omega)] at h
    · rwa [if_pos (by omega)] at h
theorem s_X5_isShot {spot start len : Int} {ms ml : Nat → Int} {sz : Int} {ph od : Nat → Int} {pi : Nat → Int64} {se : Nat → Int} {Φ : Int → Prop} (hG : zG ms sz ph od pi se) (hL : zL ml sz od se) (hsp : 0 ≤ spot ∧ spot < 64) (hst : 0 ≤ start ∧ start < 1000) (hlen : 1 ≤ len ∧ len ≤ 1000) (h : Φ (zsee (zmean sz ph od se start len) (se 5) spot.toNat)) : wp_X5_isShot spot start len ms ml Φ := by
  have hG' := hG
  obtain ⟨hR, ho, hs, hph⟩ := hG'
  have hs' := hs
  obtain ⟨s0, s1, s2, s3, s4, s5⟩ := hs'
  have hl := zlit_b ho s1 spot
  have hm := zL_i hL hsp
  have hb := (zmean_b (start := start) (len := len) (spot := spot) (ph := ph) ho hs ⟨by omega, by omega⟩).2
  unfold zsee at h
  rw [show ((spot.toNat : Nat) : Int) = spot by omega] at h
  unfold wp_X5_isShot wp_X5_isShot_31 wp_X5_isShot_32
  refine ⟨hsp, fun v1 e1 => ?_⟩
  rw [hm] at e1
  refine ⟨⟨(qR_i (by omega) (by omega)), (qR_i (by omega) (by omega))⟩, fun c => ⟨Or.inl rfl, ?_⟩, fun c => s_X5_shutterMean hG hL hsp hst hlen ⟨by decide, fun v4 e4 => ?_⟩⟩
  · rw [zmean_dark (by omega), if_neg (by omega)] at h
    exact h
  · have e4 : v4 = se 5 := e4.trans (hR.1 5 (by decide))
    refine ⟨⟨(qR_i (by omega) (by omega)), (qR_i (by omega) (by omega))⟩, fun c2 => ⟨Or.inl rfl, ?_⟩, fun c2 => ⟨Or.inr rfl, ?_⟩⟩
    · rwa [if_neg (by omega)] at h
    · rwa [if_pos (by omega)] at h
theorem s_X5_isShotNow {spot : Int} {ms ml : Nat → Int} {sz : Int} {ph od : Nat → Int} {pi : Nat → Int64} {se : Nat → Int} {Φ : Int → Prop} (hG : zG ms sz ph od pi se) (hL : zL ml sz od se) (hsp : 0 ≤ spot ∧ spot < 64) (h : Φ (zsee (zmean sz ph od se (se 3) (se 4)) (se 5) spot.toNat)) : wp_X5_isShotNow spot ms ml Φ := by
  have hG' := hG
  obtain ⟨hR, ho, hs, hph⟩ := hG'
  have hs' := hs
  obtain ⟨s0, s1, s2, s3, s4, s5⟩ := hs'
  unfold wp_X5_isShotNow
  refine ⟨by decide, fun v1 e1 => ⟨by decide, fun v2 e2 => ?_⟩⟩
  have e1 : v1 = se 3 := e1.trans (hR.1 3 (by decide))
  have e2 : v2 = se 4 := e2.trans (hR.1 4 (by decide))
  rw [e1, e2]
  exact s_X5_isShot hG hL hsp ⟨by omega, by omega⟩ ⟨by omega, by omega⟩ ⟨zsee_b _ _ _, h⟩
theorem zp01 {x : Int64} {k : Nat} {v : Int} (e : v = zb x k) : v = 0 ∨ v = 1 := by
  rw [e]
  exact zb_01 x k
theorem s_X5_wrongFor {start len : Int} {ms ml : Nat → Int} {sz : Int} {ph od : Nat → Int} {pi : Nat → Int64} {se : Nat → Int} {Φ : Int → Prop} (hG : zG ms sz ph od pi se) (hL : zL ml sz od se) (hst : 0 ≤ start ∧ start < 1000) (hlen : 1 ≤ len ∧ len ≤ 1000) (h : Φ (zcnt (fun k => zne (zsee (zmean sz ph od se start len) (se 5) k) (zb (pi 1) k)) 64)) : wp_X5_wrongFor start len ms ml Φ := by
  have hR := hG.1
  unfold wp_X5_wrongFor
  refine zl2 (fun a i => 0 ≤ i ∧ i ≤ 64 ∧ a = zcnt (fun k => zne (zsee (zmean sz ph od se start len) (se 5) k) (zb (pi 1) k)) i.toNat) (fun a i => 64 - i) (fun n a i hi ih => ?_) _ _ ⟨by omega, by omega, rfl⟩
  obtain ⟨h1, h2, h3⟩ := hi
  unfold wp_X5_wrongFor_5
  refine ⟨⟨(qR_i (by omega) (by omega)), (qR_i (by omega) (by omega))⟩, fun c => ?_, fun c => s_X5_isShot hG hL ⟨by omega, by omega⟩ hst hlen ⟨⟨by omega, by omega⟩, fun v6 e6 => ?_⟩⟩
  · rw [h3, show i.toNat = 64 by omega]
    exact h
  · rw [zR_p1 hR ⟨by omega, by omega⟩] at e6
    have h6 := zp01 e6
    have hz := zsee_b (zmean sz ph od se start len) (se 5) i.toNat
    have cont : ∀ w : Int, w = zne (zsee (zmean sz ph od se start len) (se 5) i.toNat) (zb (pi 1) i.toNat) → wp_X5_wrongFor_49 Φ (wp_X5_wrongFor_5 Φ start len ms ml n) start len i a w ms ml := by
      intro w ew
      unfold wp_X5_wrongFor_49
      intro v1 e1 v2 e2
      rw [e2]
      refine ih _ _ ⟨by omega, by omega, ?_⟩ (show (64 - (i + 1)).toNat < (64 - i).toNat by omega)
      rw [show (i + 1).toNat = i.toNat + 1 by omega, zcnt, ← h3, e1, ew]
    unfold wp_X5_wrongFor_41
    unfold zne at cont
    rw [← e6] at cont
    refine ⟨⟨(qR_i (by omega) (by omega)), (qR_i (by omega) (by omega))⟩, fun c2 => ⟨⟨(qR_i (by omega) (by omega)), (qR_i (by omega) (by omega))⟩, fun c3 => cont _ ?_, fun c3 => cont _ ?_⟩, fun c2 => ⟨⟨(qR_i (by omega) (by omega)), (qR_i (by omega) (by omega))⟩, fun c3 => cont _ ?_, fun c3 => cont _ ?_⟩⟩
    · rw [if_neg (by omega)]
    · rw [if_pos (by omega)]
    · rw [if_neg (by omega)]
    · rw [if_pos (by omega)]
/-- wrong for the eye (0) or for the shutter (not 0) -/
def zwr (sz : Int) (ph od : Nat → Int) (pi : Nat → Int64) (se : Nat → Int) (by' : Int) (k : Nat) : Int := if by' = 0 then zne (zsee (zmean sz ph od se 0 (se 0)) (se 2) k) (zb (pi 0) k) else zne (zsee (zmean sz ph od se (se 3) (se 4)) (se 5) k) (zb (pi 1) k)
theorem zwr_b (sz : Int) (ph od : Nat → Int) (pi : Nat → Int64) (se : Nat → Int) (b : Int) (k : Nat) : zwr sz ph od pi se b k = 0 ∨ zwr sz ph od pi se b k = 1 := by
  unfold zwr
  split <;> exact zne_b _ _
theorem s_X5_isWrong {spot b : Int} {ms ml : Nat → Int} {sz : Int} {ph od : Nat → Int} {pi : Nat → Int64} {se : Nat → Int} {Φ : Int → Prop} (hG : zG ms sz ph od pi se) (hL : zL ml sz od se) (hsp : 0 ≤ spot ∧ spot < 64) (hb : 0 ≤ b ∧ b < 2) (h : Φ (zwr sz ph od pi se b spot.toNat)) : wp_X5_isWrong spot b ms ml Φ := by
  have hR := hG.1
  unfold zwr at h
  unfold wp_X5_isWrong wp_X5_isWrong_27 wp_X5_isWrong_62 wp_X5_isWrong_70
  refine ⟨(qR_i (by omega) (by omega)), fun c => s_X5_isShotNow hG hL hsp ⟨⟨by omega, by omega⟩, fun v5 e5 => ?_⟩, fun c => s_X5_isEyed hG hL hsp ⟨⟨by omega, by omega⟩, fun v8 e8 => ?_⟩⟩
  · rw [if_neg c] at h
    rw [zR_p1 hR hsp] at e5
    have h6 := zp01 e5
    have hz := zsee_b (zmean sz ph od se (se 3) (se 4)) (se 5) spot.toNat
    unfold zne at h
    rw [← e5] at h
    refine ⟨⟨(qR_i (by omega) (by omega)), (qR_i (by omega) (by omega))⟩, fun c2 => ⟨⟨(qR_i (by omega) (by omega)), (qR_i (by omega) (by omega))⟩, fun c3 => ⟨Or.inl rfl, ?_⟩, fun c3 => ⟨Or.inr rfl, ?_⟩⟩, fun c2 => ⟨⟨(qR_i (by omega) (by omega)), (qR_i (by omega) (by omega))⟩, fun c3 => ⟨Or.inl rfl, ?_⟩, fun c3 => ⟨Or.inr rfl, ?_⟩⟩⟩
    · rwa [if_pos (by omega)] at h
    · rwa [if_neg (by omega)] at h
    · rwa [if_pos (by omega)] at h
    · rwa [if_neg (by omega)] at h
  · rw [if_pos (by omega)] at h
    rw [zR_p0 hR hsp] at e8
    have h6 := zp01 e8
    have hz := zsee_b (zmean sz ph od se 0 (se 0)) (se 2) spot.toNat
    unfold zne at h
    rw [← e8] at h
    refine ⟨⟨(qR_i (by omega) (by omega)), (qR_i (by omega) (by omega))⟩, fun c2 => ⟨⟨(qR_i (by omega) (by omega)), (qR_i (by omega) (by omega))⟩, fun c3 => ⟨Or.inl rfl, ?_⟩, fun c3 => ⟨Or.inr rfl, ?_⟩⟩, fun c2 => ⟨⟨(qR_i (by omega) (by omega)), (qR_i (by omega) (by omega))⟩, fun c3 => ⟨Or.inl rfl, ?_⟩, fun c3 => ⟨Or.inr rfl, ?_⟩⟩⟩
    · rwa [if_pos (by omega)] at h
    · rwa [if_neg (by omega)] at h
    · rwa [if_pos (by omega)] at h
    · rwa [if_neg (by omega)] at h
theorem s_X5_inPicture {p : Int} {ms : Nat → Int} {sz : Int} {ph od : Nat → Int} {pi : Nat → Int64} {se : Nat → Int} {Φ : Int → Prop} (hR : zR ms sz ph od pi se) (hp : 0 ≤ p ∧ p < 2) (h : Φ (zcnt (zb (pi p.toNat)) 64)) : wp_X5_inPicture p ms Φ := by
  unfold wp_X5_inPicture
  refine zl2 (fun a i => 0 ≤ i ∧ i ≤ 64 ∧ a = zcnt (zb (pi p.toNat)) i.toNat) (fun a i => 64 - i) (fun n a i hi ih => ?_) _ _ ⟨by omega, by omega, rfl⟩
  obtain ⟨h1, h2, h3⟩ := hi
  unfold wp_X5_inPicture_4 wp_X5_inPicture_27
  refine ⟨⟨(qR_i (by omega) (by omega)), (qR_i (by omega) (by omega))⟩, fun c => ?_, fun c => ⟨(qR_i (by omega) (by omega)), fun c2 => ⟨⟨by omega, by omega⟩, fun v1 e1 v2 e2 v3 e3 => ?_⟩, fun c2 => ⟨⟨by omega, by omega⟩, fun v1 e1 v2 e2 v3 e3 => ?_⟩⟩⟩
  · rw [h3, show i.toNat = 64 by omega]
    exact h
  · rw [e3]
    refine ih _ _ ⟨by omega, by omega, ?_⟩ (show (64 - (i + 1)).toNat < (64 - i).toNat by omega)
    rw [show (i + 1).toNat = i.toNat + 1 by omega, zcnt, ← h3, e2, e1, zR_p1 hR ⟨by omega, by omega⟩, show p.toNat = 1 by omega]
  · rw [e3]
    refine ih _ _ ⟨by omega, by omega, ?_⟩ (show (64 - (i + 1)).toNat < (64 - i).toNat by omega)
    rw [show (i + 1).toNat = i.toNat + 1 by omega, zcnt, ← h3, e2, e1, zR_p0 hR ⟨by omega, by omega⟩, show p.toNat = 0 by omega]
theorem s_X5_travel {ms : Nat → Int} {sz : Int} {ph od : Nat → Int} {pi : Nat → Int64} {se : Nat → Int} {Φ : Int → Prop} (hG : zG ms sz ph od pi se) (h : Φ (zS od sz.toNat)) : wp_X5_travel ms Φ := by
  obtain ⟨hR, ho, hs, hph⟩ := hG
  have ho0 := ho.1
  unfold wp_X5_travel
  refine zl3 (fun a b i => 0 ≤ i ∧ i ≤ sz ∧ a = zS od i.toNat ∧ b = zprev od i.toNat) (fun a b i => sz - i) (fun n a b i hi ih => ?_) _ _ _ ⟨by omega, by omega, rfl, rfl⟩
  obtain ⟨h1, h2, h3, h4⟩ := hi
  unfold wp_X5_travel_6
  refine ⟨by decide, fun v1 e1 => ?_⟩
  have e1 : v1 = sz := e1.trans hR.2.1
  refine ⟨⟨(qR_i (by omega) (by omega)), (qR_i (by omega) (by omega))⟩, fun c => ?_, fun c => s_X5_spotAt hR ⟨by omega, by omega⟩ ?_⟩
  · rw [h3, show i.toNat = sz.toNat by omega]
    exact h
  · have hv := ho.2.1 i.toNat (by omega)
    have hf := zprev_b ho (n := i.toNat) (by omega)
    rw [← h4] at hf
    refine s_X5_way hf hv (fun v5 e5 => s_X5_spotAt hR ⟨by omega, by omega⟩ (fun v7 e7 => ?_))
    rw [e7]
    refine ih _ _ _ ⟨by omega, by omega, ?_, ?_⟩ (show (sz - (i + 1)).toNat < (sz - i).toNat by omega)
    · rw [show (i + 1).toNat = i.toNat + 1 by omega, zS, ← h3, ← h4]
      exact e5
    · rw [show (i + 1).toNat = i.toNat + 1 by omega, zprev, if_neg (by omega)]
      rfl
/-- seen by the eye (0) or by the shutter (not 0) -/
def zsb (sz : Int) (ph od se : Nat → Int) (b : Int) (k : Nat) : Int := if b = 0 then zsee (zmean sz ph od se 0 (se 0)) (se 2) k else zsee (zmean sz ph od se (se 3) (se 4)) (se 5) k
theorem s_X5_seenBy {b : Int} {ms ml : Nat → Int} {sz : Int} {ph od : Nat → Int} {pi : Nat → Int64} {se : Nat → Int} {Φ : Int → Prop} (hG : zG ms sz ph od pi se) (hL : zL ml sz od se) (hb : 0 ≤ b ∧ b < 2) (h : Φ (zcnt (zsb sz ph od se b) 64)) : wp_X5_seenBy b ms ml Φ := by
  unfold wp_X5_seenBy
  refine zl2 (fun a i => 0 ≤ i ∧ i ≤ 64 ∧ a = zcnt (zsb sz ph od se b) i.toNat) (fun a i => 64 - i) (fun n a i hi ih => ?_) _ _ ⟨by omega, by omega, rfl⟩
  obtain ⟨h1, h2, h3⟩ := hi
  have cont : ¬ (64 : Int) ≤ i → ∀ w : Int, w = zsb sz ph od se b i.toNat → wp_X5_seenBy_39 Φ (wp_X5_seenBy_4 Φ b ms ml n) b i a w ms ml := by
    intro c w ew
    unfold wp_X5_seenBy_39
    intro v1 e1 v2 e2
    rw [e2]
    refine ih _ _ ⟨by omega, by omega, ?_⟩ (show (64 - (i + 1)).toNat < (64 - i).toNat by omega)
    rw [show (i + 1).toNat = i.toNat + 1 by omega, zcnt, ← h3, e1, ew]
  unfold zsb at cont
  unfold wp_X5_seenBy_4 wp_X5_seenBy_38 wp_X5_seenBy_34
  have hz1 := zsee_b (zmean sz ph od se 0 (se 0)) (se 2) i.toNat
  have hz2 := zsee_b (zmean sz ph od se (se 3) (se 4)) (se 5) i.toNat
  refine ⟨⟨(qR_i (by omega) (by omega)), (qR_i (by omega) (by omega))⟩, fun c => ?_, fun c => ⟨(qR_i (by omega) (by omega)), fun c2 => s_X5_isShotNow hG hL ⟨by omega, by omega⟩ ⟨(qR_i (by omega) (by omega)), fun c3 => cont c _ ?_, fun c3 => cont c _ ?_⟩, fun c2 => s_X5_isEyed hG hL ⟨by omega, by omega⟩ ⟨(qR_i (by omega) (by omega)), fun c3 => cont c _ ?_, fun c3 => cont c _ ?_⟩⟩⟩
  · rw [h3, show i.toNat = 64 by omega]
    exact h
  · rw [if_neg c2, c3]
  · rw [if_neg c2]; omega
  · rw [if_pos (by omega), c3]
  · rw [if_pos (by omega)]; omega
theorem s_X5_wrongBy {b : Int} {ms ml : Nat → Int} {sz : Int} {ph od : Nat → Int} {pi : Nat → Int64} {se : Nat → Int} {Φ : Int → Prop} (hG : zG ms sz ph od pi se) (hL : zL ml sz od se) (hb : 0 ≤ b ∧ b < 2) (h : Φ (zcnt (zwr sz ph od pi se b) 64)) : wp_X5_wrongBy b ms ml Φ := by
  unfold wp_X5_wrongBy
  refine zl2 (fun a i => 0 ≤ i ∧ i ≤ 64 ∧ a = zcnt (zwr sz ph od pi se b) i.toNat) (fun a i => 64 - i) (fun n a i hi ih => ?_) _ _ ⟨by omega, by omega, rfl⟩
  obtain ⟨h1, h2, h3⟩ := hi
  have cont : ¬ (64 : Int) ≤ i → ∀ w : Int, w = zwr sz ph od pi se b i.toNat → wp_X5_wrongBy_25 Φ (wp_X5_wrongBy_4 Φ b ms ml n) b i a w ms ml := by
    intro c w ew
    unfold wp_X5_wrongBy_25
    intro v1 e1 v2 e2
    rw [e2]
    refine ih _ _ ⟨by omega, by omega, ?_⟩ (show (64 - (i + 1)).toNat < (64 - i).toNat by omega)
    rw [show (i + 1).toNat = i.toNat + 1 by omega, zcnt, ← h3, e1, ew]
  unfold wp_X5_wrongBy_4
  have hz := zwr_b sz ph od pi se b i.toNat
  refine ⟨⟨(qR_i (by omega) (by omega)), (qR_i (by omega) (by omega))⟩, fun c => ?_, fun c => s_X5_isWrong hG hL ⟨by omega, by omega⟩ hb ⟨(qR_i (by omega) (by omega)), fun c3 => cont c _ ?_, fun c3 => cont c _ ?_⟩⟩
  · rw [h3, show i.toNat = 64 by omega]
    exact h
  · exact c3.symm
  · omega
theorem s_X5_flickerOf {spot : Int} {ms ml : Nat → Int} {sz : Int} {ph od : Nat → Int} {pi : Nat → Int64} {se : Nat → Int} {Φ : Int → Prop} (hG : zG ms sz ph od pi se) (hL : zL ml sz od se) (hsp : 0 ≤ spot ∧ spot < 64) (h : Φ (zmx (zshine ph (se 0) (zlit sz od se spot) spot) (se 0).toNat - zmn (zshine ph (se 0) (zlit sz od se spot) spot) (se 0).toNat)) : wp_X5_flickerOf spot ms ml Φ := by
  have hG' := hG
  obtain ⟨hR, ho, hs, hph⟩ := hG'
  obtain ⟨s0, s1, -⟩ := hs
  have hl := zlit_b ho s1 spot
  have hf : ∀ t, 0 ≤ t → t < se 0 → 0 ≤ zshine ph (se 0) (zlit sz od se spot) spot t ∧ zshine ph (se 0) (zlit sz od se spot) spot t ≤ 100 := fun t h1 h2 => zshine_b (by omega) hl ⟨h1, h2⟩
  unfold wp_X5_flickerOf
  refine zl3 (fun a b i => 0 ≤ i ∧ i ≤ se 0 ∧ b = zmx (zshine ph (se 0) (zlit sz od se spot) spot) i.toNat ∧ a = zmn (zshine ph (se 0) (zlit sz od se spot) spot) i.toNat) (fun a b i => se 0 - i) (fun n a b i hi ih => ?_) _ _ _ ⟨by omega, by omega, rfl, rfl⟩
  obtain ⟨h1, h2, h3, h4⟩ := hi
  have hb := zmx_b hf i.toNat (by omega)
  rw [← h3, ← h4] at hb
  unfold wp_X5_flickerOf_8
  refine ⟨by decide, fun v3 e3 => ?_⟩
  have e3 : v3 = se 0 := e3.trans (hR.1 0 (by decide))
  refine ⟨⟨(qR_i (by omega) (by omega)), (qR_i (by omega) (by omega))⟩, fun c => ?_, fun c => s_X5_brightnessAt hG hL hsp ⟨by omega, by omega⟩ ?_⟩
  · rw [h3, h4, show i.toNat = (se 0).toNat by omega]
    exact h
  · have fi := hf i h1 (by omega)
    generalize hfd : zshine ph (se 0) (zlit sz od se spot) spot i = f at fi ⊢
    have cont : ∀ u v : Int, v = (if b < f then f else b) → u = (if f < a then f else a) → wp_X5_flickerOf_53 Φ (wp_X5_flickerOf_8 Φ spot ms ml n) spot u i v ms ml := by
      intro u v ev eu
      unfold wp_X5_flickerOf_53
      intro v1 e1
      rw [e1]
      refine ih _ _ _ ⟨by omega, by omega, ?_, ?_⟩ (show (se 0 - (i + 1)).toNat < (se 0 - i).toNat by omega)
      · rw [show (i + 1).toNat = i.toNat + 1 by omega, zmx, ← h3, show ((i.toNat : Nat) : Int) = i by omega, hfd]
        exact ev
      · rw [show (i + 1).toNat = i.toNat + 1 by omega, zmn, ← h4, show ((i.toNat : Nat) : Int) = i by omega, hfd]
        exact eu
    unfold wp_X5_flickerOf_40
    refine ⟨⟨(qR_i (by omega) (by omega)), (qR_i (by omega) (by omega))⟩, fun c2 => ⟨⟨(qR_i (by omega) (by omega)), (qR_i (by omega) (by omega))⟩, fun c3 => cont _ _ ?_ ?_, fun c3 => cont _ _ ?_ ?_⟩, fun c2 => ⟨⟨(qR_i (by omega) (by omega)), (qR_i (by omega) (by omega))⟩, fun c3 => cont _ _ ?_ ?_, fun c3 => cont _ _ ?_ ?_⟩⟩
    all_goals (split <;> omega)
theorem zflick_dark {ph : Nat → Int} {per spot : Int} (hp : 8 ≤ per) : zmx (zshine ph per (-9) spot) per.toNat - zmn (zshine ph per (-9) spot) per.toNat = 0 := by
  have hz : ∀ t : Int, zshine ph per (-9) spot t = 0 := fun t => by
    unfold zshine
    rw [if_pos rfl]
  have h1 : ∀ n : Nat, zmx (zshine ph per (-9) spot) n = 0 := by
    intro n
    induction n with
    | zero => rfl
    | succ n ih =>
      rw [zmx, ih, hz]
      rfl
  have h2 : ∀ n : Nat, zmn (zshine ph per (-9) spot) (n + 1) = 0 := by
    intro n
    induction n with
    | zero =>
      rw [zmn, zmn, hz]
      rfl
    | succ n ih =>
      rw [zmn, ih, hz]
      rfl
  rw [h1, show per.toNat = (per.toNat - 1) + 1 by omega, h2]
  rfl
