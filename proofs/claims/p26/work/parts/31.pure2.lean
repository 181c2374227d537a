/-! PURE 2: sets of spots as longs; sums over ticks; what eye and shutter see (the class's side) -/
def zb (x : Int64) (k : Nat) : Int := if x.toBitVec.getLsbD k then 1 else 0
theorem zb_01 (x : Int64) (k : Nat) : zb x k = 0 ∨ zb x k = 1 := by
  unfold zb
  split
  · exact Or.inr rfl
  · exact Or.inl rfl
theorem zb_one : ∀ n : Nat, n < 64 → ∀ k : Nat, k < 64 → ((1 : Int64) <<< ((qI (n : Int)).toInt64 &&& 63)).toBitVec.getLsbD k = decide (k = n) := by decide +kernel
theorem zb_set {x : Int64} {v : Int} (hv : 0 ≤ v ∧ v < 64) {k : Nat} (hk : k < 64) : zb (x ||| (((1 : Int64) : Int64) <<< ((qI v).toInt64 &&& 63))) k = if (k : Int) = v then 1 else zb x k := by
  obtain ⟨n, rfl⟩ := Int.eq_ofNat_of_zero_le hv.1
  have h1 := zb_one n (by omega) k hk
  unfold zb
  have e : (x ||| ((1 : Int64) <<< ((qI (n : Int)).toInt64 &&& 63))).toBitVec = x.toBitVec ||| ((1 : Int64) <<< ((qI (n : Int)).toInt64 &&& 63)).toBitVec := rfl
  rw [e, BitVec.getLsbD_or, h1]
  by_cases c : k = n
  · subst c
    simp
  · have c2 : ¬ (k : Int) = (n : Int) := by omega
    simp [c, c2]
theorem zb_zero (k : Nat) : zb 0 k = 0 := by
  unfold zb
  have e : (0 : Int64).toBitVec = 0#64 := rfl
  rw [e]
  simp
theorem zb_xor (x y : Int64) (k : Nat) : zb (x ^^^ y) k = if zb x k = zb y k then 0 else 1 := by
  unfold zb
  have e : (x ^^^ y).toBitVec = x.toBitVec ^^^ y.toBitVec := rfl
  rw [e, BitVec.getLsbD_xor]
  cases x.toBitVec.getLsbD k <;> cases y.toBitVec.getLsbD k <;> simp
theorem zb_sh : ∀ n : Nat, n < 64 → ((qI (n : Int)).toInt64.toUInt64 &&& Int64.toUInt64 63).toNat = n := by decide +kernel
theorem zb_get {x : Int64} {v : Int} (hv : 0 ≤ v ∧ v < 64) : qand ((((x : Int64).toUInt64 >>> ((qI v).toInt64.toUInt64 &&& Int64.toUInt64 63)).toInt64).toInt32.toInt) (1 : Int) = zb x v.toNat := by
  obtain ⟨n, rfl⟩ := Int.eq_ofNat_of_zero_le hv.1
  have hn : n < 64 := by omega
  have hs := zb_sh n hn
  generalize hg : ((qI (n : Int)).toInt64.toUInt64 &&& Int64.toUInt64 63) = sh at hs ⊢
  unfold qand
  rw [qI_of, show qI (1 : Int) = 1 by decide, pk_and _ (m := 1) 1 (by decide)]
  have e1 : ((x.toUInt64 >>> sh).toInt64.toInt32).toBitVec.toNat % 2 ^ 1 = x.toBitVec.toNat / 2 ^ n % 2 := by
    rw [Int64.toBitVec_toInt32, UInt64.toBitVec_toInt64]
    have e2 : (x.toUInt64 >>> sh).toBitVec = x.toBitVec >>> (sh.toNat % 64) := by
      apply BitVec.eq_of_toNat_eq
      have h3 : (x.toUInt64 >>> sh).toNat = x.toUInt64.toNat >>> (sh.toNat % 64) := UInt64.toNat_shiftRight _ _
      rw [BitVec.toNat_ushiftRight]
      exact h3
    rw [e2, hs, Nat.mod_eq_of_lt hn]
    have e3 : (BitVec.signExtend 32 (x.toBitVec >>> n)).toNat = (x.toBitVec >>> n).toNat % 2 ^ 32 := by
      rw [BitVec.signExtend_eq_setWidth_of_le _ (by decide), BitVec.toNat_setWidth]
    rw [e3, BitVec.toNat_ushiftRight, Nat.shiftRight_eq_div_pow]
    omega
  rw [e1]
  have hlt : x.toBitVec.toNat / 2 ^ n % 2 < 2 := Nat.mod_lt _ (by decide)
  have e4 : x.toBitVec.getLsbD n = decide (x.toBitVec.toNat / 2 ^ n % 2 = 1) := by
    rw [BitVec.getLsbD, Nat.testBit_eq_decide_div_mod_eq]
  unfold zb
  rw [show ((n : Int)).toNat = n by omega, e4, nI_toInt (by omega)]
  by_cases c : x.toBitVec.toNat / 2 ^ n % 2 = 1
  · rw [c]; simp
  · have c2 : x.toBitVec.toNat / 2 ^ n % 2 = 0 := by omega
    rw [c2]; simp
theorem s_X4_bit {x : Int64} {v : Int} {Φ : Int → Prop} (hv : 0 ≤ v ∧ v < 64) (h : Φ (zb x v.toNat)) : wp_X4_bit x v Φ := by
  unfold wp_X4_bit
  intro v1 e1 v2 e2
  rw [e2, e1, zb_get hv]
  exact h
/-- two sets with the same spots are one -/
theorem zb_ext {x y : Int64} (h : ∀ k : Nat, k < 64 → zb x k = zb y k) : x = y := by
  have e : x.toBitVec = y.toBitVec := by
    apply BitVec.eq_of_getLsbD_eq
    intro k hk
    have h1 := h k hk
    unfold zb at h1
    cases c1 : x.toBitVec.getLsbD k <;> cases c2 : y.toBitVec.getLsbD k <;> simp [c1, c2] at h1 ⊢
  cases x; cases y
  congr 1
  rename_i a b
  cases a; cases b
  congr 1
/-- the brightness of a spot at a tick -/
def zshine (ph : Nat → Int) (per lit spot tick : Int) : Int := if lit = -9 then 0 else zglow (ph spot.toNat) (if 0 ≤ tick - lit then tick - lit else tick - lit + per)
theorem zshine_b {ph : Nat → Int} {per lit spot tick : Int} (hper : 0 ≤ per) (hl : lit = -9 ∨ (1 ≤ lit ∧ lit < per)) (ht : 0 ≤ tick ∧ tick < per) : 0 ≤ zshine ph per lit spot tick ∧ zshine ph per lit spot tick ≤ 100 := by
  unfold zshine
  by_cases c : lit = -9
  · rw [if_pos c]; omega
  · rw [if_neg c]
    refine zglow_b ?_
    split <;> omega
theorem s_X1_shine {spot lit tick : Int} {ph se : Nat → Int} {Φ : Int → Prop} (hsp : 0 ≤ spot ∧ spot < 64) (hph : zPh ph) (hs : zSe se) (hl : lit = -9 ∨ (1 ≤ lit ∧ lit < se 0)) (ht : 0 ≤ tick ∧ tick < se 0) (h : Φ (zshine ph (se 0) lit spot tick)) : wp_X1_shine spot lit tick ph se Φ := by
  obtain ⟨s0, -⟩ := hs
  have hp := hph spot.toNat (by omega)
  unfold zshine at h
  unfold wp_X1_shine wp_X1_shine_38
  refine ⟨⟨qR_i (by omega) (by omega), by decide⟩, fun c v3 e3 => ⟨⟨by omega, by omega⟩, fun v4 e4 => ⟨qR_i (by omega) (by omega), fun c2 => ?_, fun c2 => ⟨by decide, fun v6 e6 => ?_⟩⟩⟩, fun c => ?_⟩
  · rw [if_neg c, if_pos (by omega), ← e3, ← e4] at h
    exact s_X4_glow (by rw [e4]; exact hp) (by omega) h
  · have e7 : v6 = se 0 := e6
    rw [if_neg c, if_neg (by omega), ← e3, ← e4, ← e7] at h
    exact s_X4_glow (by rw [e4]; exact hp) (by omega) h
  · rwa [if_pos (by omega)] at h
theorem zmod_s {a p : Int} (hp : 0 < p) : (a + 1) % p = if a % p + 1 < p then a % p + 1 else 0 := by
  have h0 := Int.emod_nonneg a (show p ≠ 0 by omega)
  have h1 := Int.emod_lt_of_pos a hp
  rw [← Int.emod_add_emod]
  by_cases c : a % p + 1 < p
  · rw [if_pos c, Int.emod_eq_of_lt (by omega) c]
  · rw [if_neg c, show a % p + 1 = p by omega, Int.emod_self]
theorem s_X1_next {tick : Int} {se : Nat → Int} {Φ : Int → Prop} (hs : zSe se) (ht : 0 ≤ tick ∧ tick < se 0) (h : Φ (if tick + 1 < se 0 then tick + 1 else 0)) : wp_X1_next tick se Φ := by
  obtain ⟨s0, -⟩ := hs
  unfold wp_X1_next wp_X1_next_19
  refine ⟨by decide, fun v1 e1 => ?_⟩
  have e1 : v1 = se 0 := e1
  refine ⟨⟨qR_i (by omega) (by omega), qR_i (by omega) (by omega)⟩, fun c => ?_, fun c => ?_⟩
  · rwa [if_neg (by omega)] at h
  · rwa [if_pos (by omega)] at h
/-- the sum of f over n ticks from start on -/
def zsum (f : Int → Int) (per start : Int) : Nat → Int
  | 0 => 0
  | n + 1 => zsum f per start n + f ((start + n) % per)
theorem zsum_b {f : Int → Int} {per start : Int} (hper : 0 < per) (hf : ∀ t, 0 ≤ t → t < per → 0 ≤ f t ∧ f t ≤ 100) : ∀ n : Nat, 0 ≤ zsum f per start n ∧ zsum f per start n ≤ 100 * n
  | 0 => by simp [zsum]
  | n + 1 => by
    have ih := zsum_b (start := start) hper hf n
    have h := hf ((start + n) % per) (Int.emod_nonneg _ (by omega)) (Int.emod_lt_of_pos _ hper)
    simp only [zsum]
    omega
theorem zsum_c {f g : Int → Int} {per start : Int} (hper : 0 < per) (hfg : ∀ t, 0 ≤ t → t < per → f t = g t) : ∀ n : Nat, zsum f per start n = zsum g per start n
  | 0 => rfl
  | n + 1 => by
    rw [zsum, zsum, zsum_c hper hfg n, hfg _ (Int.emod_nonneg _ (by omega)) (Int.emod_lt_of_pos _ hper)]
theorem s_X1_sumOver {spot start len sz : Int} {ph od se : Nat → Int} {Φ : Int → Prop} (hsp : 0 ≤ spot ∧ spot < 64) (hph : zPh ph) (ho : zOk sz od) (hs : zSe se) (hst : 0 ≤ start ∧ start < se 0) (hlen : 0 ≤ len ∧ len ≤ 1000) (h : Φ (zsum (zshine ph (se 0) (zlit sz od se spot) spot) (se 0) start len.toNat)) : wp_X1_sumOver spot start len sz ph od se Φ := by
  have hs' := hs
  obtain ⟨s0, s1, -⟩ := hs'
  have hl := zlit_b ho s1 spot
  unfold wp_X1_sumOver
  refine s_X1_litTick ho hs (qR_i (by omega) (by omega)) ?_
  have key : ∀ (m : Nat) (i sum tick : Int), 0 ≤ i → i ≤ len → (len - i).toNat = m → sum = zsum (zshine ph (se 0) (zlit sz od se spot) spot) (se 0) start i.toNat → tick = (start + i) % se 0 → wp_X1_sumOver_16 Φ spot len (zlit sz od se spot) ph se (m + 1) sum tick i := by
    intro m
    induction m with
    | zero =>
      intro i sum tick a b e e1 e2
      unfold wp_X1_sumOver_16
      refine ⟨⟨qR_i (by omega) (by omega), qR_i (by omega) (by omega)⟩, fun c => ?_, fun c => absurd (show len ≤ i by omega) c⟩
      rw [e1, show i.toNat = len.toNat by omega]
      exact h
    | succ m ih =>
      intro i sum tick a b e e1 e2
      have ht : 0 ≤ tick ∧ tick < se 0 := by rw [e2]; exact ⟨Int.emod_nonneg _ (by omega), Int.emod_lt_of_pos _ (by omega)⟩
      unfold wp_X1_sumOver_16
      refine ⟨⟨qR_i (by omega) (by omega), qR_i (by omega) (by omega)⟩, fun c => absurd c (by omega), fun c => ?_⟩
      refine s_X1_shine hsp hph hs hl ht ?_
      intro v3 e3
      refine s_X1_next hs ht ?_
      intro v5 e5
      refine ih v5 v3 _ (by omega) (by omega) (by omega) ?_ ?_
      · rw [show v5.toNat = i.toNat + 1 by omega, zsum, ← e1, e3, e2, show ((i.toNat : Nat) : Int) = i by omega]
      · rw [e5, show start + (i + 1) = (start + i) + 1 by omega, zmod_s (by omega), ← e2]
  exact ⟨_, key len.toNat 0 0 start (by omega) (by omega) (by omega) rfl (by rw [show start + 0 = start by omega, Int.emod_eq_of_lt hst.1 hst.2])⟩
theorem s_X1_mean {sum n : Int} {Φ : Int → Prop} (h1 : 0 ≤ sum ∧ sum < 2147483648) (h2 : 0 < n ∧ n < 2147483648) (h : Φ (sum / n)) : wp_X1_mean sum n Φ := by
  unfold wp_X1_mean wp_X1_mean_11
  refine ⟨qR_i (by omega) (by omega), fun c => absurd c (by omega), fun c => ⟨qP_i h1.1 h1.2 h2.1 h2.2, fun v e => ?_⟩⟩
  rw [e]; exact h
theorem s_X1_startInFrame {se : Nat → Int} {Φ : Int → Prop} (hs : zSe se) (h : Φ (se 3 % se 0)) : wp_X1_startInFrame se Φ := by
  obtain ⟨s0, s1, s2, s3, -⟩ := hs
  unfold wp_X1_startInFrame wp_X1_startInFrame_23
  refine ⟨by decide, fun v1 e1 => ?_⟩
  have e1 : v1 = se 0 := e1
  refine ⟨qR_i (by omega) (by omega), fun c => absurd c (by omega), fun c => ⟨by decide, fun v3 e3 => ?_⟩⟩
  have e3 : v3 = se 3 := e3
  refine ⟨qP_i (by omega) (by omega) (by omega) (by omega), fun v4 e4 => ?_⟩
  rw [e4, e3, e1]; exact h
/-- the mean of a spot's brightness -/
def zmean (sz : Int) (ph od se : Nat → Int) (start : Int) (len : Int) (spot : Int) : Int := zsum (zshine ph (se 0) (zlit sz od se spot) spot) (se 0) start len.toNat / len
theorem zmean_b {sz start len spot : Int} {ph od se : Nat → Int} (ho : zOk sz od) (hs : zSe se) (hlen : 1 ≤ len ∧ len ≤ 1000) : (0 ≤ zsum (zshine ph (se 0) (zlit sz od se spot) spot) (se 0) start len.toNat ∧ zsum (zshine ph (se 0) (zlit sz od se spot) spot) (se 0) start len.toNat ≤ 100000) ∧ 0 ≤ zmean sz ph od se start len spot ∧ zmean sz ph od se start len spot ≤ 100000 := by
  obtain ⟨s0, s1, -⟩ := hs
  have hl := zlit_b ho s1 spot
  have hb := zsum_b (f := zshine ph (se 0) (zlit sz od se spot) spot) (per := se 0) (start := start) (by omega) (fun t h1 h2 => zshine_b (by omega) hl ⟨h1, h2⟩) len.toNat
  have h3 : 0 ≤ zsum (zshine ph (se 0) (zlit sz od se spot) spot) (se 0) start len.toNat / len := Int.ediv_nonneg hb.1 (by omega)
  have h4 : zsum (zshine ph (se 0) (zlit sz od se spot) spot) (se 0) start len.toNat / len ≤ zsum (zshine ph (se 0) (zlit sz od se spot) spot) (se 0) start len.toNat := Int.ediv_le_self _ hb.1
  unfold zmean
  omega
/-- a spot that isn't lit is dark in the mean -/
theorem zmean_dark {sz start len spot : Int} {ph od se : Nat → Int} (hl : zlit sz od se spot = -9) : zmean sz ph od se start len spot = 0 := by
  have h : ∀ n : Nat, zsum (zshine ph (se 0) (zlit sz od se spot) spot) (se 0) start n = 0 := by
    intro n
    induction n with
    | zero => rfl
    | succ n ih =>
      rw [zsum, ih]
      unfold zshine
      rw [if_pos hl]
      rfl
  unfold zmean
  rw [h, Int.zero_ediv]
theorem s_X1_eyeMean {spot sz : Int} {ph od se : Nat → Int} {Φ : Int → Prop} (hsp : 0 ≤ spot ∧ spot < 64) (hph : zPh ph) (ho : zOk sz od) (hs : zSe se) (h : Φ (zmean sz ph od se 0 (se 0) spot)) : wp_X1_eyeMean spot sz ph od se Φ := by
  have hs' := hs
  obtain ⟨s0, -⟩ := hs'
  have hb := zmean_b (start := 0) (len := se 0) (spot := spot) (ph := ph) ho hs ⟨by omega, by omega⟩
  unfold wp_X1_eyeMean
  refine ⟨by decide, fun v1 e1 => ?_⟩
  have e1 : v1 = se 0 := e1
  subst e1
  refine s_X1_sumOver hsp hph ho hs ⟨by omega, by omega⟩ ⟨by omega, by omega⟩ ⟨by decide, fun v3 e3 => ?_⟩
  have e3 : v3 = se 0 := e3
  subst e3
  exact s_X1_mean ⟨hb.1.1, by omega⟩ ⟨by omega, by omega⟩ h
theorem s_X1_shutterMean {spot len sz : Int} {ph od se : Nat → Int} {Φ : Int → Prop} (hsp : 0 ≤ spot ∧ spot < 64) (hph : zPh ph) (ho : zOk sz od) (hs : zSe se) (hlen : 1 ≤ len ∧ len ≤ 1000) (h : Φ (zmean sz ph od se (se 3 % se 0) len spot)) : wp_X1_shutterMean spot len sz ph od se Φ := by
  have hs' := hs
  obtain ⟨s0, -⟩ := hs'
  have hb := zmean_b (start := se 3 % se 0) (len := len) (spot := spot) (ph := ph) ho hs hlen
  unfold wp_X1_shutterMean
  refine s_X1_startInFrame hs ?_
  refine s_X1_sumOver hsp hph ho hs ⟨Int.emod_nonneg _ (by omega), Int.emod_lt_of_pos _ (by omega)⟩ ⟨by omega, by omega⟩ ?_
  exact s_X1_mean ⟨hb.1.1, by omega⟩ ⟨by omega, by omega⟩ h
