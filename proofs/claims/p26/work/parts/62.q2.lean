/-! P26, 2: low, digest -/
def zlw (v n : Int) : Int := qand v 2147483647 % n
theorem qand_lo (v : Int) : 0 ≤ qand v 2147483647 ∧ qand v 2147483647 < 2147483648 := by
  have h : ∀ x : Int32, 0 ≤ (x &&& 2147483647).toInt := by
    intro x
    have h1 : (x &&& 2147483647).toBitVec.msb = false := by
      show (x.toBitVec &&& (2147483647 : Int32).toBitVec).msb = false
      rw [BitVec.msb_and]
      have : ((2147483647 : Int32).toBitVec).msb = false := by decide
      rw [this, Bool.and_false]
    show 0 ≤ (x &&& 2147483647).toBitVec.toInt
    rw [BitVec.toInt_eq_toNat_of_msb h1]
    omega
  have e : qI 2147483647 = 2147483647 := by decide
  unfold qand
  rw [e]
  exact ⟨h (qI v), by have := Int32.toInt_lt (qI v &&& 2147483647); omega⟩
theorem zlw_b {v n : Int} (hn : 0 < n) : 0 ≤ zlw v n ∧ zlw v n < n := ⟨Int.emod_nonneg _ (by omega), Int.emod_lt_of_pos _ hn⟩
theorem s_low {v n : Int} {Φ : Int → Prop} (hn : 0 < n ∧ n < 2147483648) (h : Φ (zlw v n)) : wp_L_low v n Φ := by
  unfold wp_L_low
  intro v1 e1
  have hb := qand_lo v
  rw [← e1] at hb
  refine ⟨⟨hb, hn⟩, fun v2 e2 => ?_⟩
  rw [e2, e1]
  exact h
/-- a count of steps from a place on -/
def zfl (g : Int → Int64 → Int64) : Nat → Int → Int64 → Int64
  | 0, _, h => h
  | n + 1, a, h => zfl g n (a + 1) (g a h)
theorem zfl_s (g : Int → Int64 → Int64) {m a : Int} (ha : a < m) (h : Int64) : zfl g (m - a).toNat a h = zfl g (m - (a + 1)).toNat (a + 1) (g a h) := by
  rw [show (m - a).toNat = (m - (a + 1)).toNat + 1 by omega, zfl]
theorem zfl_e (g : Int → Int64 → Int64) {m a : Int} (ha : m ≤ a) (h : Int64) : zfl g (m - a).toNat a h = h := by
  rw [show (m - a).toNat = 0 by omega, zfl]
theorem zfl_c {f g : Int → Int64 → Int64} : ∀ (n : Nat) (a : Int) (h : Int64), (∀ k : Int, a ≤ k → k < a + n → ∀ h, f k h = g k h) → zfl f n a h = zfl g n a h
  | 0, _, _, _ => rfl
  | n + 1, a, h, q => by
    rw [zfl, zfl, q a (by omega) (by omega) h]
    exact zfl_c n (a + 1) _ (fun k k1 k2 => q k (by omega) (by omega))
def zat (x sz : Int) (od : Nat → Int) : Int := if x < 0 then -1 else if x < sz then od x.toNat else -9
section ZDIG
variable {kp tl : Int} {tk : Nat → Int} {sz : Int} {ph od : Nat → Int} {pi : Nat → Int64} {se : Nat → Int}
def zg1 (tk : Nat → Int) (sz : Int) (ph od : Nat → Int) (pi : Nat → Int64) (se : Nat → Int) (a : Int) (h : Int64) : Int64 := ((31 : Int64) * h) + ((qI (zcount a 0 0 tk sz ph od pi se)).toInt64)
def zg2 (sz : Int) (od : Nat → Int) (a : Int) (h : Int64) : Int64 := ((31 : Int64) * h) + ((qI (zat a sz od)).toInt64)
def zg3 (sz : Int) (ph od : Nat → Int) (pi : Nat → Int64) (se : Nat → Int) (a : Int) (h : Int64) : Int64 := ((((31 : Int64) * h) + ((qI (zspot a 0 sz ph od pi se)).toInt64)) + ((qI ((5 : Int) * zspot a 1 sz ph od pi se)).toInt64)) + ((qI ((11 : Int) * zspot a 2 sz ph od pi se)).toInt64)
def zdig (tk : Nat → Int) (sz : Int) (ph od : Nat → Int) (pi : Nat → Int64) (se : Nat → Int) : Int64 := zfl (zg1 tk sz ph od pi se) (19 - 13 : Int).toNat 13 (zfl (zg3 sz ph od pi se) (64 - 0 : Int).toNat 0 (zfl (zg2 sz od) (12 - 0 : Int).toNat 0 (zfl (zg1 tk sz ph od pi se) (11 - 0 : Int).toNat 0 11)))
theorem zcount_k {x kp tl : Int} (h1 : x ≠ 11) (h2 : x ≠ 12) : zcount x kp tl tk sz ph od pi se = zcount x 0 0 tk sz ph od pi se := by
  unfold zcount
  by_cases c0 : x = 0
  · rw [if_pos c0, if_pos c0]
  by_cases c1 : x = 1
  · rw [if_neg c0, if_pos c1, if_neg c0, if_pos c1]
  rw [if_neg h1, if_neg h1, if_neg h2, if_neg h2]
theorem zcount_t {x : Int} {tk' : Nat → Int} (h0 : tk' 0 = tk 0) (h1 : tk' 1 = tk 1) : zcount x kp tl tk' sz ph od pi se = zcount x kp tl tk sz ph od pi se := by
  unfold zcount
  rw [h0, h1]
theorem zdig_c {tk' : Nat → Int} (h0 : tk' 0 = tk 0) (h1 : tk' 1 = tk 1) : zdig tk' sz ph od pi se = zdig tk sz ph od pi se := by
  have e : zg1 tk' sz ph od pi se = zg1 tk sz ph od pi se := by
    funext a h
    unfold zg1
    rw [zcount_t h0 h1]
  unfold zdig
  rw [e]
theorem a_digest {Φ : Int64 → Prop} (hG : zX sz ph od pi se) (f0 : tk 0 = 0 ∨ tk 0 = 1) (f1 : tk 1 = 0 ∨ tk 1 = 1) (h : Φ (zdig tk sz ph od pi se)) : wp_L_digest kp tl tk sz ph od pi se Φ := by
  obtain ⟨R, eR⟩ : ∃ R : Int64, R = zdig tk sz ph od pi se := ⟨_, rfl⟩
  rw [← eR] at h
  unfold zdig at eR
  obtain ⟨g1, d1⟩ : ∃ g : Int → Int64 → Int64, g = zg1 tk sz ph od pi se := ⟨_, rfl⟩
  obtain ⟨g2, d2⟩ : ∃ g : Int → Int64 → Int64, g = zg2 sz od := ⟨_, rfl⟩
  obtain ⟨g3, d3⟩ : ∃ g : Int → Int64 → Int64, g = zg3 sz ph od pi se := ⟨_, rfl⟩
  rw [← d1, ← d2, ← d3] at eR
  obtain ⟨F4, e4⟩ : ∃ F : Int64 → Int64, ∀ x, zfl g1 (19 - 13 : Int).toNat 13 x = F x := ⟨fun x => zfl g1 (19 - 13 : Int).toNat 13 x, fun _ => rfl⟩
  obtain ⟨F3, e3⟩ : ∃ F : Int64 → Int64, ∀ x, zfl g3 (64 - 0 : Int).toNat 0 x = F x := ⟨fun x => zfl g3 (64 - 0 : Int).toNat 0 x, fun _ => rfl⟩
  obtain ⟨F2, e2⟩ : ∃ F : Int64 → Int64, ∀ x, zfl g2 (12 - 0 : Int).toNat 0 x = F x := ⟨fun x => zfl g2 (12 - 0 : Int).toNat 0 x, fun _ => rfl⟩
  rw [e4, e3, e2] at eR
  have s4 : ∀ h9 : Int64, R = F4 h9 → ∃ n : Nat, wp_L_digest_110 Φ kp tl tk sz ph od pi se n h9 13 := by
    intro h9 e9
    rw [← e4] at e9
    refine zl2 (fun (x : Int64) (a : Int) => (13 ≤ a ∧ a ≤ 19) ∧ R = zfl g1 (19 - a).toNat a x) (fun _ a => 19 - a) (fun n x a hi ih => ?_) _ _ ⟨by omega, e9⟩
    obtain ⟨i1, i2⟩ := hi
    unfold wp_L_digest_110
    refine ⟨⟨(qR_i (by omega) (by omega)), (qR_i (by omega) (by omega))⟩, fun c => ?_, fun c => a_count hG f0 f1 (qR_i (by omega) (by omega)) (fun v e v2 f2 => ?_)⟩
    · rw [zfl_e _ c] at i2
      rw [← i2]
      exact h
    · rw [zfl_s _ (by omega)] at i2
      rw [zcount_k (by omega) (by omega)] at e
      have e : v = zg1 tk sz ph od pi se a x := e
      rw [← d1] at e
      rw [e, f2]
      exact ih _ _ ⟨by omega, i2⟩ (by omega)
  have s3 : ∀ h9 : Int64, R = F4 (F3 h9) → ∃ n : Nat, wp_L_digest_60 Φ kp tl tk sz ph od pi se n h9 0 := by
    intro h9 e9
    rw [← e3] at e9
    refine zl2 (fun (x : Int64) (a : Int) => (0 ≤ a ∧ a ≤ 64) ∧ R = F4 (zfl g3 (64 - a).toNat a x)) (fun _ a => 64 - a) (fun n x a hi ih => ?_) _ _ ⟨by omega, e9⟩
    obtain ⟨i1, i2⟩ := hi
    unfold wp_L_digest_60
    refine ⟨⟨(qR_i (by omega) (by omega)), (qR_i (by omega) (by omega))⟩, fun c => ?_, fun c => a_spot hG (qR_i (by omega) (by omega)) (by decide) (a_spot hG (qR_i (by omega) (by omega)) (by decide) (a_spot hG (qR_i (by omega) (by omega)) (by decide) (fun v e v2 f2 => ?_)))⟩
    · rw [zfl_e _ c] at i2
      exact s4 _ i2
    · rw [zfl_s _ (by omega)] at i2
      have e : v = zg3 sz ph od pi se a x := e
      rw [← d3] at e
      rw [e, f2]
      exact ih _ _ ⟨by omega, i2⟩ (by omega)
  have s2 : ∀ h9 : Int64, R = F4 (F3 (F2 h9)) → ∃ n : Nat, wp_L_digest_33 Φ kp tl tk sz ph od pi se n h9 0 := by
    intro h9 e9
    rw [← e2] at e9
    refine zl2 (fun (x : Int64) (a : Int) => (0 ≤ a ∧ a ≤ 12) ∧ R = F4 (F3 (zfl g2 (12 - a).toNat a x))) (fun _ a => 12 - a) (fun n x a hi ih => ?_) _ _ ⟨by omega, e9⟩
    obtain ⟨i1, i2⟩ := hi
    unfold wp_L_digest_33
    refine ⟨⟨(qR_i (by omega) (by omega)), (qR_i (by omega) (by omega))⟩, fun c => ?_, fun c => a_at hG.2.1 (qR_i (by omega) (by omega)) (fun v e v2 f2 => ?_)⟩
    · rw [zfl_e _ c] at i2
      exact s3 _ i2
    · rw [zfl_s _ (by omega)] at i2
      have e : v = zg2 sz od a x := e
      rw [← d2] at e
      rw [e, f2]
      exact ih _ _ ⟨by omega, i2⟩ (by omega)
  unfold wp_L_digest
  refine zl2 (fun (x : Int64) (a : Int) => (0 ≤ a ∧ a ≤ 11) ∧ R = F4 (F3 (F2 (zfl g1 (11 - a).toNat a x)))) (fun _ a => 11 - a) (fun n x a hi ih => ?_) _ _ ⟨by omega, eR⟩
  obtain ⟨i1, i2⟩ := hi
  unfold wp_L_digest_6
  refine ⟨⟨(qR_i (by omega) (by omega)), (qR_i (by omega) (by omega))⟩, fun c => ?_, fun c => a_count hG f0 f1 (qR_i (by omega) (by omega)) (fun v e v2 f2 => ?_)⟩
  · rw [zfl_e _ c] at i2
    exact s2 _ i2
  · rw [zfl_s _ (by omega)] at i2
    rw [zcount_k (by omega) (by omega)] at e
    have e : v = zg1 tk sz ph od pi se a x := e
    rw [← d1] at e
    rw [e, f2]
    exact ih _ _ ⟨by omega, i2⟩ (by omega)
end ZDIG
