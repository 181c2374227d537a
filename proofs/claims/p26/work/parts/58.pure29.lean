/-! PURE 29: looking: the rest, on both sides -/
theorem a_at {x sz : Int} {od : Nat → Int} {Φ : Int → Prop} (ho : zOk sz od) (hx : qR x) (h : Φ (if x < 0 then -1 else if x < sz then od x.toNat else -9)) : wp_X4_at x sz od Φ := by
  have ho1 := ho.1
  unfold wp_X4_at wp_X4_at_37
  refine ⟨hx, fun c => ⟨⟨hx, (qR_i (by omega) (by omega))⟩, fun c2 => ?_, fun c2 => ⟨⟨by omega, by omega⟩, fun v3 e3 => ?_⟩⟩, fun c => ?_⟩
  · rwa [if_neg (by omega), if_neg (by omega)] at h
  · rw [if_neg (by omega), if_pos (by omega)] at h
    rw [e3]; exact h
  · rwa [if_pos (by omega)] at h
/-- what brightness answers -/
def zbri (x y sz : Int) (ph od se : Nat → Int) : Int := if (0 ≤ x ∧ x < 64) ∧ 0 ≤ y ∧ y < se 0 then zshine ph (se 0) (zlit sz od se x) x y else -1
theorem a_brightness {x y : Int} {ms : Nat → Int} {sz : Int} {ph od : Nat → Int} {pi : Nat → Int64} {se : Nat → Int} {Φ : Int → Prop} (hG : zG ms sz ph od pi se) (hx : qR x) (hy : qR y) (h : Φ (zbri x y sz ph od se)) : wp_X4_brightness x y sz ph od se Φ := by
  obtain ⟨hR, ho, hs, hph⟩ := hG
  have hs0 := hs.1
  unfold zbri at h
  unfold wp_X4_brightness wp_X4_brightness_29
  refine s_X4_isSpot hx ?_
  by_cases c : 0 ≤ x ∧ x < 64
  · rw [if_pos c]
    refine ⟨by decide, fun z => absurd z (by decide), fun _ => ⟨hy, fun c2 => ?_, fun c2 => ⟨by decide, fun v4 e4 => ?_⟩⟩⟩
    · rwa [if_neg (by omega)] at h
    · have e4 : v4 = se 0 := e4
      rw [e4]
      refine ⟨⟨hy, (qR_i (by omega) (by omega))⟩, fun c3 => s_X1_litTick ho hs hx ?_, fun c3 => ?_⟩
      · rw [if_pos ⟨c, by omega, c3⟩] at h
        exact s_X1_shine c hph hs (zlit_b ho hs.2.1 x) ⟨by omega, by omega⟩ h
      · rwa [if_neg (by omega)] at h
  · rw [if_neg c]
    rw [if_neg (fun z => c z.1)] at h
    exact ⟨by decide, fun _ => h, fun z => absurd rfl z⟩
theorem a_firstWrong {x : Int} {ms : Nat → Int} {sz : Int} {ph od : Nat → Int} {pi : Nat → Int64} {se : Nat → Int} {Φ : Int → Prop} (hG : zG ms sz ph od pi se) (hx : qR x) (h : Φ (if 0 ≤ x ∧ x < 2 then zfst (zwr sz ph od pi se x) else -1)) : wp_X4_firstWrong x sz ph od pi se Φ := by
  obtain ⟨hR, ho, hs, hph⟩ := hG
  have hs4 := hs.2.2.2.2.1
  unfold wp_X4_firstWrong
  refine ⟨hx, fun c => ?_, fun c => ?_, fun c => ⟨by decide, fun v4 e4 => ?_⟩⟩
  · rwa [if_neg (by omega)] at h
  · subst c
    refine s_X1_seenByEye hph ho hs (fun r hr => s_X1_wrong (Or.inl rfl) (s_X4_firstOf ?_))
    have e := zfst_c (f := zb (pi 0 ^^^ r)) (g := zwr sz ph od pi se 0) (fun k hk => zwr_e hr hk)
    show Φ (zfst (zb (pi 0 ^^^ r)))
    rw [e]
    exact h
  · subst c
    have e4 : v4 = se 4 := e4
    rw [e4]
    refine s_X1_seenByShutter hph ho hs ⟨by omega, by omega⟩ (fun r hr => s_X1_wrong (Or.inr rfl) (s_X4_firstOf ?_))
    have e := zfst_c (f := zb (pi 1 ^^^ r)) (g := zwr sz ph od pi se 1) (fun k hk => zwr_s hr hk)
    show Φ (zfst (zb (pi 1 ^^^ r)))
    rw [e]
    exact h
/-- how many are wrong for the shutter from a start, for a length -/
def zU (sz : Int) (ph od : Nat → Int) (pi : Nat → Int64) (se : Nat → Int) (start len : Int) : Int := zcnt (fun k => zne (zsee (zmean sz ph od se start len) (se 5) k) (zb (pi 1) k)) 64
theorem zU_b (sz : Int) (ph od : Nat → Int) (pi : Nat → Int64) (se : Nat → Int) (start len : Int) : 0 ≤ zU sz ph od pi se start len ∧ zU sz ph od pi se start len ≤ 64 := zcnt_b 64 (fun k _ => by rcases zne_b (zsee (zmean sz ph od se start len) (se 5) k) (zb (pi 1) k) with q | q <;> rw [q] <;> decide)
/-- the best start so far b, those from a on to come -/
def zbs (U : Int → Int) : Nat → Int → Int → Int
  | 0, b, _ => b
  | n + 1, b, a => zbs U n (if U a < U b then a else b) (a + 1)
theorem zbs_s (U : Int → Int) {per b a : Int} (h : a < per) : zbs U (per - a).toNat b a = zbs U (per - (a + 1)).toNat (if U a < U b then a else b) (a + 1) := by
  rw [show (per - a).toNat = (per - (a + 1)).toNat + 1 by omega, zbs]
theorem zbs_e (U : Int → Int) {per b a : Int} (h : per ≤ a) : zbs U (per - a).toNat b a = b := by
  rw [show (per - a).toNat = 0 by omega, zbs]
def zbest (x sz : Int) (ph od : Nat → Int) (pi : Nat → Int64) (se : Nat → Int) : Int := if x = 0 then zbs (fun a => zU sz ph od pi se a (se 4)) (se 0 - 1).toNat 0 1 else zU sz ph od pi se (zbs (fun a => zU sz ph od pi se a (se 4)) (se 0 - 1).toNat 0 1) (se 4)
theorem a_bestStart {x : Int} {ms : Nat → Int} {sz : Int} {ph od : Nat → Int} {pi : Nat → Int64} {se wa : Nat → Int} {Φ : Int → (Nat → Int) → Prop} (hG : zG ms sz ph od pi se) (hx : qR x) (h : ∀ g, Φ (if 0 ≤ x ∧ x < 2 then zbest x sz ph od pi se else -1) g) : wp_X4_bestStart x wa sz ph od pi se Φ := by
  obtain ⟨hR, ho, hs, hph⟩ := hG
  have hs0 := hs.1
  unfold wp_X4_bestStart wp_X4_bestStart_9
  refine ⟨hx, fun c => ?_, fun c => ⟨⟨hx, by decide⟩, fun c2 => s_X1_countWrong hph ho hs (fun g hg => ?_), fun c2 => ?_⟩⟩
  · have h := h wa
    rwa [if_neg (by omega)] at h
  · have h := h g
    rw [if_pos ⟨by omega, by omega⟩] at h
    have hg : ∀ a : Int, 0 ≤ a → a < se 0 → g a.toNat = zU sz ph od pi se a (se 4) := fun a a1 a2 => by
      rw [hg a.toNat (by omega), show ((a.toNat : Nat) : Int) = a by omega]
      rfl
    have fin : ∀ b : Int, (0 ≤ b ∧ b < se 0) → b = zbs (fun a => zU sz ph od pi se a (se 4)) (se 0 - 1).toNat 0 1 → wp_X4_bestStart_75 Φ x b g := fun b hb e => by
      unfold wp_X4_bestStart_75 wp_X4_bestStart_89
      unfold zbest at h
      rw [← e] at h
      refine ⟨hx, fun c3 => ⟨⟨by omega, by omega⟩, fun v2 e2 => ?_⟩, fun c3 => ?_⟩
      · rw [if_neg c3] at h
        rw [e2, hg b hb.1 hb.2]
        exact h
      · rw [if_pos (Classical.not_not.mp c3)] at h
        exact h
    refine zl2 (fun (b a : Int) => (0 ≤ b ∧ b < se 0) ∧ (1 ≤ a ∧ a ≤ se 0) ∧ zbs (fun a => zU sz ph od pi se a (se 4)) (se 0 - a).toNat b a = zbs (fun a => zU sz ph od pi se a (se 4)) (se 0 - 1).toNat 0 1) (fun b a => se 0 - a) (fun n b a hi ih => ?_) _ _ ⟨by omega, by omega, rfl⟩
    obtain ⟨i1, i2, i3⟩ := hi
    have hba := zU_b sz ph od pi se a (se 4)
    have hbb := zU_b sz ph od pi se b (se 4)
    unfold wp_X4_bestStart_29
    refine ⟨by decide, fun v4 e4 => ?_⟩
    have e4 : v4 = se 0 := e4
    rw [e4]
    refine ⟨⟨(qR_i (by omega) (by omega)), (qR_i (by omega) (by omega))⟩, fun c3 => ?_, fun c3 => ⟨⟨(qR_i (by omega) (by omega)), (qR_i (by omega) (by omega))⟩, fun c4 => absurd c4 (by omega), fun c4 => ⟨⟨by omega, by omega⟩, fun v7 e7 => ⟨⟨by omega, by omega⟩, fun v8 e8 => ?_⟩⟩⟩⟩
    · rw [zbs_e _ c3] at i3
      exact fin b i1 i3
    · rw [hg a (by omega) (by omega)] at e7
      rw [hg b i1.1 i1.2] at e8
      rw [zbs_s _ (by omega)] at i3
      rw [e7, e8]
      unfold wp_X4_bestStart_69
      refine ⟨⟨(qR_i (by omega) (by omega)), (qR_i (by omega) (by omega))⟩, fun c5 v3 e3 => ?_, fun c5 v3 e3 => ?_⟩
      · rw [e3]
        rw [if_neg (by omega)] at i3
        exact ih _ _ ⟨i1, by omega, i3⟩ (show (se 0 - (a + 1)).toNat < (se 0 - a).toNat by omega)
      · rw [e3]
        rw [if_pos (by omega)] at i3
        exact ih _ _ ⟨by omega, by omega, i3⟩ (show (se 0 - (a + 1)).toNat < (se 0 - a).toNat by omega)
  · have h := h wa
    rwa [if_neg (by omega)] at h
/-- the longest length up to n for which none is wrong -/
def zlg (U : Int → Int) : Nat → Int
  | 0 => -9
  | n + 1 => if U ((n : Int) + 1) = 0 then (n : Int) + 1 else zlg U n
theorem zcnt_z {f : Nat → Int} : ∀ n : Nat, (∀ k : Nat, k < n → f k = 0 ∨ f k = 1) → (zcnt f n = 0 ↔ ∀ k : Nat, k < n → f k = 0)
  | 0, _ => ⟨fun _ k hk => absurd hk (by omega), fun _ => rfl⟩
  | n + 1, h => by
    have ih := zcnt_z n (fun k hk => h k (by omega))
    have hb := zcnt_b (f := f) n (fun k hk => by rcases h k (by omega) with q | q <;> rw [q] <;> decide)
    have hn := h n (by omega)
    rw [zcnt]
    constructor
    · intro e k hk
      by_cases z : k = n
      · rw [z]; omega
      · exact ih.1 (by omega) k (by omega)
    · intro e
      rw [ih.2 (fun k hk => e k (by omega)), e n (by omega)]
      rfl
theorem a_longest {ms : Nat → Int} {sz : Int} {ph od : Nat → Int} {pi : Nat → Int64} {se : Nat → Int} {Φ : Int → Prop} (hG : zG ms sz ph od pi se) (h : Φ (zlg (zU sz ph od pi se (se 3)) 50)) : wp_X4_longest sz ph od pi se Φ := by
  obtain ⟨hR, ho, hs, hph⟩ := hG
  unfold wp_X4_longest
  refine zl1 (fun (a : Int) => ∃ n : Nat, a = n ∧ n ≤ 50 ∧ zlg (zU sz ph od pi se (se 3)) n = zlg (zU sz ph od pi se (se 3)) 50) (fun a => a) (fun m a hi ih => ?_) _ ⟨50, rfl, by omega, rfl⟩
  obtain ⟨n, rfl, i1, i2⟩ := hi
  unfold wp_X4_longest_3
  refine ⟨(qR_i (by omega) (by omega)), fun c => ?_, fun c => s_X1_seenByShutter hph ho hs ⟨by omega, by omega⟩ (fun r hr => s_X1_wrong (Or.inr rfl) (fun v4 e4 => ?_))⟩
  · have e0 : n = 0 := by omega
    subst e0
    rw [← i2] at h
    exact h
  · obtain ⟨n', rfl⟩ : ∃ n' : Nat, n = n' + 1 := ⟨n - 1, by omega⟩
    rw [zlg] at i2
    have key : (pi 1 ^^^ r = 0) ↔ zU sz ph od pi se (se 3) ((n' : Int) + 1) = 0 := by
      have hf : ∀ k : Nat, k < 64 → zb (pi 1 ^^^ r) k = zne (zsee (zmean sz ph od se (se 3) ((n' : Int) + 1)) (se 5) k) (zb (pi 1) k) := fun k hk => by
        rw [zne_xor, hr k hk, zmean_mod]
        rfl
      unfold zU
      rw [zcnt_z 64 (fun k _ => zne_b _ _)]
      constructor
      · intro e k hk
        rw [← hf k hk, e, zb_zero]
      · intro e
        exact zb_ext (fun k hk => by rw [hf k hk, e k hk, zb_zero])
    have e4 : v4 = qlcmp (pi 1 ^^^ r) 0 := e4
    have hq : v4 = 0 ↔ pi 1 ^^^ r = 0 := by
      rw [e4]
      unfold qlcmp
      by_cases z : pi 1 ^^^ r = 0
      · rw [z]
        decide
      · by_cases z2 : (0 : Int64) < pi 1 ^^^ r
        · rw [if_pos z2]
          exact ⟨fun y => absurd y (by decide), fun y => absurd y z⟩
        · rw [if_neg z2, if_neg z]
          exact ⟨fun y => absurd y (by decide), fun y => absurd y z⟩
    have hv : qR v4 := by
      rw [e4]
      unfold qlcmp
      repeat' split
      all_goals decide
    refine ⟨hv, fun c2 v6 e6 => ?_, fun c2 => ?_⟩
    · rw [if_neg (fun z => c2 (hq.2 (key.2 z)))] at i2
      exact ih _ ⟨n', by omega, by omega, i2⟩ (by omega)
    · rw [if_pos (key.1 (hq.1 (Classical.not_not.mp c2)))] at i2
      rw [← i2] at h
      exact h
theorem a_ticks {x y : Int} {Φ : Int → Prop} (hx : qR x) (hy : qR y) (h : Φ (if (0 ≤ x ∧ x < 4) ∧ 1 ≤ y ∧ y ≤ 100 then zabv x y else -1)) : wp_X4_ticks x y Φ := by
  unfold wp_X4_ticks wp_X4_ticks_18
  refine s_X4_isPhosphor hx ?_
  by_cases c : 0 ≤ x ∧ x < 4
  · rw [if_pos c]
    refine ⟨by decide, fun z => absurd z (by decide), fun _ => ⟨⟨hy, by decide⟩, fun c2 => ?_, fun c2 => ⟨⟨hy, by decide⟩, fun c3 => s_X4_ticksAbove ⟨by omega, by omega⟩ ⟨by omega, by omega⟩ ?_, fun c3 => ?_⟩⟩⟩
    · rwa [if_neg (by omega)] at h
    · rwa [if_pos ⟨c, by omega, c3⟩] at h
    · rwa [if_neg (by omega)] at h
  · rw [if_neg c]
    rw [if_neg (fun z => c z.1)] at h
    exact ⟨by decide, fun _ => h, fun z => absurd rfl z⟩
def zshort (sz : Int) (od se : Nat → Int) : Int := if 200 < zA od (se 1) sz.toNat + 1 then -9 else if zA od (se 1) sz.toNat + 1 < 8 then 8 else zA od (se 1) sz.toNat + 1
theorem a_shortestPeriod {sz : Int} {od se : Nat → Int} {Φ : Int → Prop} (ho : zOk sz od) (hs : zSe se) (h : Φ (zshort sz od se)) : wp_X4_shortestPeriod sz od se Φ := by
  have ho1 := ho.1
  have hb := zA_b ho hs.2.1 sz.toNat (by omega)
  unfold zshort at h
  unfold wp_X4_shortestPeriod wp_X4_shortestPeriod_43
  refine s_X1_arrival ho hs.2.1 ⟨by omega, by omega⟩ ?_
  rw [show sz - 1 + 1 = sz by omega]
  intro v2 e2
  rw [e2]
  refine ⟨⟨(qR_i (by omega) (by omega)), (qR_i (by omega) (by omega))⟩, fun c => ⟨⟨(qR_i (by omega) (by omega)), (qR_i (by omega) (by omega))⟩, fun v4 e4 => ?_⟩, fun c => ?_⟩
  · rw [if_neg (by omega)] at h
    rw [e4]
    by_cases c2 : zA od (se 1) sz.toNat + 1 < 8
    · rw [if_pos c2] at h
      rw [if_neg (by omega)]
      exact h
    · rw [if_neg c2] at h
      by_cases c3 : 8 < zA od (se 1) sz.toNat + 1
      · rw [if_pos c3]
        exact h
      · rw [if_neg c3]
        rw [show zA od (se 1) sz.toNat + 1 = 8 by omega] at h
        exact h
  · rwa [if_pos (by omega)] at h