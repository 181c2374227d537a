/-! PURE 6: bitCount; fill; paint -/
theorem zshr {x : Int64} {v : Int} (hv : 0 ≤ v ∧ v < 64) : ((x.toUInt64 >>> ((qI v).toInt64.toUInt64 &&& Int64.toUInt64 63)).toInt64).toBitVec.toNat = x.toBitVec.toNat / 2 ^ v.toNat := by
  obtain ⟨n, rfl⟩ := Int.eq_ofNat_of_zero_le hv.1
  have hn : n < 64 := by omega
  have hs := zb_sh n hn
  generalize hg : ((qI (n : Int)).toInt64.toUInt64 &&& Int64.toUInt64 63) = sh at hs ⊢
  have h3 : (x.toUInt64 >>> sh).toNat = x.toUInt64.toNat >>> (sh.toNat % 64) := UInt64.toNat_shiftRight _ _
  have h4 : ((x.toUInt64 >>> sh).toInt64).toBitVec.toNat = (x.toUInt64 >>> sh).toNat := rfl
  rw [h4, h3, hs, Nat.mod_eq_of_lt hn, Nat.shiftRight_eq_div_pow]
  rfl
theorem zb_bt (x : Int64) (k : Nat) : zb x k = zbt x.toBitVec.toNat k := by
  unfold zb zbt
  rw [BitVec.getLsbD, Nat.testBit_eq_decide_div_mod_eq]
  have : x.toBitVec.toNat / 2 ^ k % 2 < 2 := Nat.mod_lt _ (by decide)
  by_cases c : x.toBitVec.toNat / 2 ^ k % 2 = 1
  · rw [c]; simp
  · have c2 : x.toBitVec.toNat / 2 ^ k % 2 = 0 := by omega
    rw [c2]; simp
theorem zl_add (x y : Int64) : (x + y).toBitVec.toNat = (x.toBitVec.toNat + y.toBitVec.toNat) % 2 ^ 64 := BitVec.toNat_add _ _
theorem zl_sub (x y : Int64) : (x - y).toBitVec.toNat = (2 ^ 64 - y.toBitVec.toNat + x.toBitVec.toNat) % 2 ^ 64 := BitVec.toNat_sub _ _
theorem zl_and (x y : Int64) : (x &&& y).toBitVec.toNat = x.toBitVec.toNat &&& y.toBitVec.toNat := BitVec.toNat_and _ _
theorem zl_55 : (6148914691236517205 : Int64).toBitVec.toNat = zmsk 85 8 := by decide
theorem zl_33 : (3689348814741910323 : Int64).toBitVec.toNat = zmsk 51 8 := by decide
theorem zl_0f : (1085102592571150095 : Int64).toBitVec.toNat = zmsk 15 8 := by decide
theorem zl_33v : zmsk 51 8 = 3689348814741910323 := by decide
theorem zl_0fv : zmsk 15 8 = 1085102592571150095 := by decide
theorem s_J13_bitCount {x : Int64} {Φ : Int → Prop} (h : Φ (zcnt (zb x) 64)) : wp_J13_bitCount_95d88 x Φ := by
  unfold wp_J13_bitCount_95d88
  intro v1 e1 v2 e2 v3 e3 v4 e4 v5 e5 v6 e6 v7 e7 v8 e8
  have hN : x.toBitVec.toNat < 2 ^ 64 := x.toBitVec.isLt
  have n1 : v1.toBitVec.toNat = zF1 x.toBitVec.toNat 8 := by
    rw [e1, zl_sub, zl_and, zl_55, zshr (by decide)]
    unfold zF1
    have : x.toBitVec.toNat / 2 ^ (1 : Int).toNat &&& zmsk 85 8 ≤ x.toBitVec.toNat / 2 ^ (1 : Int).toNat := Nat.and_le_left
    have q : (2 : Nat) ^ (1 : Int).toNat = 2 := rfl
    rw [q] at this ⊢
    omega
  have n2 : v2.toBitVec.toNat = zF2 x.toBitVec.toNat 8 := by
    rw [e2, zl_add, zl_and, zl_and, zl_33, zshr (by decide), n1]
    unfold zF2
    have q : (2 : Nat) ^ (2 : Int).toNat = 4 := rfl
    rw [q]
    have h1 : zF1 x.toBitVec.toNat 8 &&& zmsk 51 8 ≤ zmsk 51 8 := Nat.and_le_right
    have h2 : zF1 x.toBitVec.toNat 8 / 4 &&& zmsk 51 8 ≤ zmsk 51 8 := Nat.and_le_right
    rw [zl_33v] at h1 h2 ⊢
    omega
  have b2 : zF2 x.toBitVec.toNat 8 ≤ 2 * 3689348814741910323 := by
    unfold zF2
    have h1 : zF1 x.toBitVec.toNat 8 &&& zmsk 51 8 ≤ zmsk 51 8 := Nat.and_le_right
    have h2 : zF1 x.toBitVec.toNat 8 / 4 &&& zmsk 51 8 ≤ zmsk 51 8 := Nat.and_le_right
    rw [zl_33v] at h1 h2 ⊢
    omega
  have n3 : v3.toBitVec.toNat = zF3 x.toBitVec.toNat 8 := by
    rw [e3, zl_and, zl_add, zl_0f, zshr (by decide), n2]
    unfold zF3
    have q : (2 : Nat) ^ (4 : Int).toNat = 16 := rfl
    rw [q, Nat.mod_eq_of_lt (by omega)]
  have b3 : zF3 x.toBitVec.toNat 8 ≤ 1085102592571150095 := by
    unfold zF3
    rw [← zl_0fv]
    exact Nat.and_le_right
  obtain ⟨c0, c1, c2, c3, c4, c5, c6, c7, f0, hc, hcnt⟩ := zpop hN
  have n4 : v4.toBitVec.toNat = zF3 x.toBitVec.toNat 8 + zF3 x.toBitVec.toNat 8 / 256 := by
    rw [e4, zl_add, zshr (by decide), n3]
    have q : (2 : Nat) ^ (8 : Int).toNat = 256 := rfl
    rw [q, Nat.mod_eq_of_lt (by omega)]
  have n5 : v5.toBitVec.toNat = v4.toBitVec.toNat + v4.toBitVec.toNat / 65536 := by
    rw [e5, zl_add, zshr (by decide)]
    have q : (2 : Nat) ^ (16 : Int).toNat = 65536 := rfl
    rw [q, Nat.mod_eq_of_lt (by omega)]
  have n6 : v6.toBitVec.toNat = v5.toBitVec.toNat + v5.toBitVec.toNat / 4294967296 := by
    rw [e6, zl_add, zshr (by decide)]
    have q : (2 : Nat) ^ (32 : Int).toNat = 4294967296 := rfl
    rw [q, Nat.mod_eq_of_lt (by omega)]
  have n7 := zfold f0 rfl rfl rfl rfl rfl rfl rfl hc n4 n5 n6
  have e9 : v8 = zcnt (zb x) 64 := by
    rw [zcnt_c 64 (fun k _ => zb_bt x k), hcnt, e8, e7]
    unfold qand
    rw [qI_of, show qI (127 : Int) = 127 by decide, pk_and _ (m := 127) 7 (by decide)]
    have e1 : (v6.toInt32).toBitVec.toNat % 2 ^ 7 = v6.toBitVec.toNat % 128 := by
      rw [Int64.toBitVec_toInt32, BitVec.signExtend_eq_setWidth_of_le _ (by decide), BitVec.toNat_setWidth]
      omega
    rw [e1, n7, nI_toInt (by omega)]
  rw [e9]
  exact h
theorem s_J7_fill {v : Int} {wa : Nat → Int} {Φ : (Nat → Int) → Prop} (h : ∀ g : Nat → Int, (∀ k : Nat, k < 200 → g k = v) → Φ g) : wp_J7_fill_53178 v wa Φ := by
  unfold wp_J7_fill_53178
  refine zl2 (fun i g => 0 ≤ i ∧ i ≤ 200 ∧ ∀ k : Nat, (k : Int) < i → g k = v) (fun i g => 200 - i) (fun n i g hi ih => ?_) _ _ ⟨by omega, by omega, fun k hk => absurd hk (by omega)⟩
  obtain ⟨h1, h2, h3⟩ := hi
  unfold wp_J7_fill_53178_5
  refine ⟨⟨(qR_i (by omega) (by omega)), (qR_i (by omega) (by omega))⟩, fun c => h g (fun k hk => h3 k (by omega)), fun c => ⟨⟨by omega, by omega⟩, fun g2 e2 v3 e3 => ?_⟩⟩
  rw [e3]
  refine ih _ _ ⟨by omega, by omega, fun k hk => ?_⟩ (show (200 - (i + 1)).toNat < (200 - i).toNat by omega)
  rw [e2]
  unfold qU
  split
  · rfl
  · exact h3 k (by omega)
theorem zb_clr {x : Int64} {v : Int} (hv : 0 ≤ v ∧ v < 64) {k : Nat} (hk : k < 64) : zb (x &&& ((((1 : Int64) : Int64) <<< ((qI v).toInt64 &&& 63)) ^^^ (-1 : Int64))) k = if (k : Int) = v then 0 else zb x k := by
  obtain ⟨n, rfl⟩ := Int.eq_ofNat_of_zero_le hv.1
  have h1 := zb_one n (by omega) k hk
  unfold zb
  have e : (x &&& (((1 : Int64) <<< ((qI (n : Int)).toInt64 &&& 63)) ^^^ (-1 : Int64))).toBitVec = x.toBitVec &&& (((1 : Int64) <<< ((qI (n : Int)).toInt64 &&& 63)).toBitVec ^^^ (-1 : Int64).toBitVec) := rfl
  have e2 : (-1 : Int64).toBitVec = BitVec.allOnes 64 := by decide
  rw [e, BitVec.getLsbD_and, BitVec.getLsbD_xor, h1, e2, BitVec.getLsbD_allOnes]
  by_cases c : k = n
  · subst c
    simp [hk]
  · have c2 : ¬ (k : Int) = (n : Int) := by omega
    simp [c, c2, hk]
theorem s_X1_paint {p s b : Int} {pi : Nat → Int64} {Φ : Int → (Nat → Int64) → Prop} (hp : qR p) (hs : qR s) (hb : qR b) (h1 : ¬ ((0 ≤ p ∧ p < 2) ∧ (0 ≤ s ∧ s < 64) ∧ 0 ≤ b ∧ b < 2) → Φ (-1) pi) (h2 : (0 ≤ p ∧ p < 2) → (0 ≤ s ∧ s < 64) → (0 ≤ b ∧ b < 2) → ∀ g : Nat → Int64, (∀ q k : Nat, k < 64 → zb (g q) k = if q = p.toNat ∧ (k : Int) = s then b else zb (pi q) k) → Φ (zcnt (zb (g p.toNat)) 64) g) : wp_X1_paint p s b pi Φ := by
  unfold wp_X1_paint wp_X1_paint_25
  refine ⟨hp, fun c => h1 (by omega), fun c => ⟨⟨hp, (qR_i (by omega) (by omega))⟩, fun c2 => h1 (by omega), fun c2 => s_X4_isSpot hs ?_⟩⟩
  by_cases c3 : 0 ≤ s ∧ s < 64
  · rw [if_pos c3]
    refine ⟨(qR_i (by omega) (by omega)), fun z => absurd z (by decide), fun _ => ⟨hb, fun c4 => h1 (by omega), fun c4 => ⟨⟨hb, (qR_i (by omega) (by omega))⟩, fun c5 => ⟨⟨hb, (qR_i (by omega) (by omega))⟩, fun c6 => ⟨⟨by omega, by omega⟩, fun v10 e10 => ⟨⟨by omega, by omega⟩, fun g11 e11 => ?_⟩⟩, fun c6 => ⟨⟨by omega, by omega⟩, fun v12 e12 => ⟨⟨by omega, by omega⟩, fun g13 e13 => ?_⟩⟩⟩, fun c5 => h1 (by omega)⟩⟩⟩
    · unfold wp_X1_paint_63
      refine ⟨⟨by omega, by omega⟩, fun v1 e1 => s_J13_bitCount ?_⟩
      rw [e1]
      refine h2 ⟨by omega, by omega⟩ c3 ⟨by omega, by omega⟩ g11 (fun q k hk => ?_)
      rw [e11, e10]
      unfold qUL
      by_cases z : q = p.toNat
      · rw [if_pos z, zb_clr c3 hk, z]
        by_cases y : (k : Int) = s
        · rw [if_pos y, if_pos ⟨rfl, y⟩]; omega
        · rw [if_neg y, if_neg (fun w => y w.2)]
      · rw [if_neg z, if_neg (fun w => z w.1)]
    · unfold wp_X1_paint_63
      refine ⟨⟨by omega, by omega⟩, fun v1 e1 => s_J13_bitCount ?_⟩
      rw [e1]
      refine h2 ⟨by omega, by omega⟩ c3 ⟨by omega, by omega⟩ g13 (fun q k hk => ?_)
      rw [e13, e12]
      unfold qUL
      by_cases z : q = p.toNat
      · rw [if_pos z, zb_set c3 hk, z]
        by_cases y : (k : Int) = s
        · rw [if_pos y, if_pos ⟨rfl, y⟩]; omega
        · rw [if_neg y, if_neg (fun w => y w.2)]
      · rw [if_neg z, if_neg (fun w => z w.1)]
  · rw [if_neg c3]
    exact ⟨(qR_i (by omega) (by omega)), fun _ => h1 (fun z => c3 z.2.1), fun z => absurd rfl z⟩
