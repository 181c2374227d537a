/-! PURE 5: how many bits are set -/
/-- the sum of f over the first n -/
def zcnt (f : Nat → Int) : Nat → Int
  | 0 => 0
  | n + 1 => zcnt f n + f n
theorem zcnt_c {f g : Nat → Int} : ∀ n : Nat, (∀ k : Nat, k < n → f k = g k) → zcnt f n = zcnt g n
  | 0, _ => rfl
  | n + 1, h => by rw [zcnt, zcnt, zcnt_c n (fun k hk => h k (by omega)), h n (by omega)]
theorem zcnt_b {f : Nat → Int} : ∀ n : Nat, (∀ k : Nat, k < n → 0 ≤ f k ∧ f k ≤ 1) → 0 ≤ zcnt f n ∧ zcnt f n ≤ n
  | 0, _ => by simp [zcnt]
  | n + 1, h => by
    have ih := zcnt_b n (fun k hk => h k (by omega))
    have := h n (by omega)
    simp only [zcnt]
    omega
theorem zcnt_split {f : Nat → Int} (m : Nat) : ∀ n : Nat, zcnt f (m + n) = zcnt f m + zcnt (fun k => f (m + k)) n
  | 0 => by simp [zcnt]
  | n + 1 => by
    rw [show m + (n + 1) = (m + n) + 1 by omega, zcnt, zcnt, zcnt_split m n]
    omega
theorem zcnt_upd {f g : Nat → Int} (v : Nat) : ∀ n : Nat, (∀ k : Nat, k < n → k ≠ v → g k = f k) → zcnt g n = zcnt f n + if v < n then g v - f v else 0
  | 0, _ => by simp [zcnt]
  | n + 1, h => by
    rw [zcnt, zcnt, zcnt_upd v n (fun k hk => h k (by omega))]
    by_cases c : v < n
    · rw [if_pos c, if_pos (by omega), h n (by omega) (by omega)]
      omega
    · rw [if_neg c]
      by_cases c2 : v = n
      · subst c2
        rw [if_pos (by omega)]
        omega
      · rw [if_neg (by omega), h n (by omega) (by omega)]
        omega
theorem zand_byte {d c m M : Nat} (hd : d < 256) (hc : c < 256) : (d + 256 * m) &&& (c + 256 * M) = (d &&& c) + 256 * (m &&& M) := by
  have hdc : d &&& c < 2 ^ 8 := Nat.lt_of_le_of_lt Nat.and_le_left hd
  rw [Nat.add_comm d, Nat.add_comm c, Nat.add_comm (d &&& c), show (256 : Nat) = 2 ^ 8 by rfl]
  apply Nat.eq_of_testBit_eq
  intro j
  rw [Nat.testBit_and, Nat.testBit_two_pow_mul_add _ hd, Nat.testBit_two_pow_mul_add _ hc, Nat.testBit_two_pow_mul_add _ hdc]
  split
  · rw [Nat.testBit_and]
  · rw [Nat.testBit_and]
def zmsk (c : Nat) : Nat → Nat
  | 0 => 0
  | n + 1 => c + 256 * zmsk c n
def zF1 (n K : Nat) : Nat := n - (n / 2 &&& zmsk 85 K)
def zF2 (n K : Nat) : Nat := (zF1 n K &&& zmsk 51 K) + (zF1 n K / 4 &&& zmsk 51 K)
def zF3 (n K : Nat) : Nat := (zF2 n K + zF2 n K / 16) &&& zmsk 15 K
def zf1 (d : Nat) : Nat := d - (d / 2 &&& 85)
def zf2 (d : Nat) : Nat := (zf1 d &&& 51) + (zf1 d / 4 &&& 51)
def zf3 (d : Nat) : Nat := (zf2 d + zf2 d / 16) % 16
theorem zd1 : ∀ d : Nat, d < 256 → ∀ e : Nat, e < 2 → (d / 2 + 128 * e) &&& 85 = d / 2 &&& 85 := by decide +kernel
theorem zd2 : ∀ d : Nat, d < 256 → ∀ e : Nat, e < 4 → (d / 4 + 64 * e) &&& 51 = d / 4 &&& 51 := by decide +kernel
theorem zd3 : ∀ d : Nat, d < 256 → zf1 d < 256 ∧ zf2 d ≤ 68 ∧ zf3 d = d % 2 + d / 2 % 2 + d / 4 % 2 + d / 8 % 2 + d / 16 % 2 + d / 32 % 2 + d / 64 % 2 + d / 128 % 2 := by decide +kernel
theorem zF1_s {d m K : Nat} (hd : d < 256) : zF1 (d + 256 * m) (K + 1) = zf1 d + 256 * zF1 m K := by
  unfold zF1 zf1
  rw [zmsk, show (d + 256 * m) / 2 = (d / 2 + 128 * (m % 2)) + 256 * (m / 2) by omega, zand_byte (by omega) (by decide), zd1 d hd _ (by omega)]
  have h1 : d / 2 &&& 85 ≤ d / 2 := Nat.and_le_left
  have h2 : m / 2 &&& zmsk 85 K ≤ m / 2 := Nat.and_le_left
  omega
theorem zF2_s {d m K : Nat} (hd : d < 256) : zF2 (d + 256 * m) (K + 1) = zf2 d + 256 * zF2 m K := by
  unfold zF2 zf2
  have hf := (zd3 d hd).1
  rw [zF1_s hd]
  generalize zF1 m K = F
  generalize zf1 d = f at hf ⊢
  rw [zmsk, show (f + 256 * F) / 4 = (f / 4 + 64 * (F % 4)) + 256 * (F / 4) by omega, zand_byte (by omega) (by decide), zand_byte (by omega) (by decide), zd2 f hf _ (by omega)]
  omega
theorem zmsk_16 (K : Nat) : zmsk 51 K % 16 ≤ 3 := by
  cases K with
  | zero => decide
  | succ K =>
    rw [zmsk]
    omega
theorem zF2_16 (m K : Nat) : zF2 m K % 16 ≤ 6 := by
  unfold zF2
  have h : ∀ a : Nat, (a &&& zmsk 51 K) % 16 ≤ 3 := by
    intro a
    rw [show (16 : Nat) = 2 ^ 4 by rfl, Nat.and_mod_two_pow]
    exact Nat.le_trans Nat.and_le_right (zmsk_16 K)
  have h1 := h (zF1 m K)
  have h2 := h (zF1 m K / 4)
  omega
theorem zF3_s {d m K : Nat} (hd : d < 256) : zF3 (d + 256 * m) (K + 1) = zf3 d + 256 * zF3 m K := by
  unfold zF3 zf3
  have hf := (zd3 d hd).2.1
  have h16 := zF2_16 m K
  rw [zF2_s hd]
  generalize zF2 m K = F at h16 ⊢
  generalize zf2 d = f at hf ⊢
  rw [zmsk, show f + 256 * F + (f + 256 * F) / 16 = (f + f / 16 + 16 * (F % 16)) + 256 * (F + F / 16) by omega, zand_byte (by omega) (by decide), show (15 : Nat) = 2 ^ 4 - 1 by rfl, Nat.and_two_pow_sub_one_eq_mod]
  omega
/-- the bits of a number -/
def zbt (n k : Nat) : Int := ((n / 2 ^ k % 2 : Nat) : Int)
theorem zbt_hi {d m k : Nat} (hd : d < 256) : zbt (d + 256 * m) (8 + k) = zbt m k := by
  unfold zbt
  rw [Nat.pow_add, ← Nat.div_div_eq_div_mul, show (d + 256 * m) / 2 ^ 8 = m by omega]
theorem zbt_lo {d m : Nat} (hd : d < 256) : zcnt (zbt (d + 256 * m)) 8 = (zf3 d : Nat) := by
  rw [(zd3 d hd).2.2]
  simp only [zcnt, zbt]
  omega
theorem zbt_s {d m : Nat} (hd : d < 256) (n : Nat) : zcnt (zbt (d + 256 * m)) (8 + n) = (zf3 d : Nat) + zcnt (zbt m) n := by
  rw [zcnt_split, zbt_lo hd]
  congr 1
  exact zcnt_c n (fun k _ => zbt_hi hd)
theorem zF3_0 (n : Nat) : zF3 n 0 = 0 := by
  unfold zF3
  rw [zmsk, Nat.and_zero]
theorem zfold {F t1 t2 t3 t4 t5 t6 t7 : Nat} {c0 c1 c2 c3 c4 c5 c6 c7 : Nat} (e0 : F = c0 + 256 * t1) (e1 : t1 = c1 + 256 * t2) (e2 : t2 = c2 + 256 * t3) (e3 : t3 = c3 + 256 * t4) (e4 : t4 = c4 + 256 * t5) (e5 : t5 = c5 + 256 * t6) (e6 : t6 = c6 + 256 * t7) (e7 : t7 = c7 + 256 * 0) (hc : c0 ≤ 8 ∧ c1 ≤ 8 ∧ c2 ≤ 8 ∧ c3 ≤ 8 ∧ c4 ≤ 8 ∧ c5 ≤ 8 ∧ c6 ≤ 8 ∧ c7 ≤ 8) {g4 g5 g6 : Nat} (f4 : g4 = F + F / 256) (f5 : g5 = g4 + g4 / 65536) (f6 : g6 = g5 + g5 / 4294967296) : g6 % 128 = c0 + (c1 + (c2 + (c3 + (c4 + (c5 + (c6 + (c7 + 0))))))) := by
  obtain ⟨h0, h1, h2, h3, h4, h5, h6, h7⟩ := hc
  have q1 : F / 256 = t1 := by omega
  have q4 : g4 = (c0 + c1) + 256 * (t1 + t2) := by omega
  have u1 : t1 + t2 = (c1 + c2) + 256 * (t2 + t3) := by omega
  have u2 : t2 + t3 = (c2 + c3) + 256 * (t3 + t4) := by omega
  have u3 : t3 + t4 = (c3 + c4) + 256 * (t4 + t5) := by omega
  have u4 : t4 + t5 = (c4 + c5) + 256 * (t5 + t6) := by omega
  have u5 : t5 + t6 = (c5 + c6) + 256 * (t6 + t7) := by omega
  have u6 : t6 + t7 = (c6 + c7) + 256 * t7 := by omega
  clear e0 e1 e2 e3 e4 e5 e6 f4 q1
  generalize t1 + t2 = v1 at *
  generalize t2 + t3 = v2 at *
  generalize t3 + t4 = v3 at *
  generalize t4 + t5 = v4 at *
  generalize t5 + t6 = v5 at *
  generalize t6 + t7 = v6 at *
  have q2 : g4 / 65536 = v2 := by
    clear u2 u3 u4 u5 u6 f5 f6
    omega
  rw [q2] at f5
  have w0 : g5 = (c0 + c1 + c2 + c3) + 256 * (v1 + v3) := by omega
  have w1 : v1 + v3 = (c1 + c2 + c3 + c4) + 256 * (v2 + v4) := by omega
  have w2 : v2 + v4 = (c2 + c3 + c4 + c5) + 256 * (v3 + v5) := by omega
  have w3 : v3 + v5 = (c3 + c4 + c5 + c6) + 256 * (v4 + v6) := by omega
  have w4 : v4 + v6 = (c4 + c5 + c6 + c7) + 256 * (v5 + t7) := by omega
  clear q4 u1 u2 u3 u4 u5 u6 f5 q2
  generalize v1 + v3 = x1 at *
  generalize v2 + v4 = x2 at *
  generalize v3 + v5 = x3 at *
  generalize v4 + v6 = x4 at *
  generalize v5 + t7 = x5 at *
  have q3 : g5 / 4294967296 = x4 := by
    clear w4 f6
    have y3 : x3 / 256 = x4 := by omega
    have y2 : x2 / 65536 = x4 := by
      rw [show (65536 : Nat) = 256 * 256 by decide, ← Nat.div_div_eq_div_mul, show x2 / 256 = x3 by omega, y3]
    have y1 : x1 / 16777216 = x4 := by
      rw [show (16777216 : Nat) = 256 * 65536 by decide, ← Nat.div_div_eq_div_mul, show x1 / 256 = x2 by omega, y2]
    rw [show (4294967296 : Nat) = 256 * 16777216 by decide, ← Nat.div_div_eq_div_mul, show g5 / 256 = x1 by omega, y1]
  rw [q3] at f6
  clear q3 w1 w2 w3
  omega
theorem zpop {N : Nat} (h : N < 2 ^ 64) : ∃ c0 c1 c2 c3 c4 c5 c6 c7 : Nat, zF3 N 8 = c0 + 256 * (c1 + 256 * (c2 + 256 * (c3 + 256 * (c4 + 256 * (c5 + 256 * (c6 + 256 * (c7 + 256 * 0))))))) ∧ (c0 ≤ 8 ∧ c1 ≤ 8 ∧ c2 ≤ 8 ∧ c3 ≤ 8 ∧ c4 ≤ 8 ∧ c5 ≤ 8 ∧ c6 ≤ 8 ∧ c7 ≤ 8) ∧ zcnt (zbt N) 64 = ((c0 + (c1 + (c2 + (c3 + (c4 + (c5 + (c6 + (c7 + 0)))))))  : Nat) : Int) := by
  have h8 : ∀ d : Nat, d < 256 → zf3 d ≤ 8 := fun d hd => by
    rw [(zd3 d hd).2.2]
    omega
  have key : ∀ (K n : Nat), n < 256 ^ (K + 1) → ∃ d m : Nat, d < 256 ∧ m < 256 ^ K ∧ n = d + 256 * m := by
    intro K n hn
    refine ⟨n % 256, n / 256, by omega, ?_, by omega⟩
    rw [Nat.pow_succ] at hn
    exact Nat.div_lt_of_lt_mul (by rw [Nat.mul_comm]; exact hn)
  have h : N < 256 ^ (7 + 1) := by
    rw [show (256 : Nat) ^ (7 + 1) = 2 ^ 64 by decide]
    exact h
  obtain ⟨d0, m0, a0, b0, rfl⟩ := key 7 N h
  obtain ⟨d1, m1, a1, b1, rfl⟩ := key 6 m0 b0
  obtain ⟨d2, m2, a2, b2, rfl⟩ := key 5 m1 b1
  obtain ⟨d3, m3, a3, b3, rfl⟩ := key 4 m2 b2
  obtain ⟨d4, m4, a4, b4, rfl⟩ := key 3 m3 b3
  obtain ⟨d5, m5, a5, b5, rfl⟩ := key 2 m4 b4
  obtain ⟨d6, m6, a6, b6, rfl⟩ := key 1 m5 b5
  obtain ⟨d7, m7, a7, b7, rfl⟩ := key 0 m6 b6
  refine ⟨zf3 d0, zf3 d1, zf3 d2, zf3 d3, zf3 d4, zf3 d5, zf3 d6, zf3 d7, ?_, ⟨h8 _ a0, h8 _ a1, h8 _ a2, h8 _ a3, h8 _ a4, h8 _ a5, h8 _ a6, h8 _ a7⟩, ?_⟩
  · rw [zF3_s a0, zF3_s a1, zF3_s a2, zF3_s a3, zF3_s a4, zF3_s a5, zF3_s a6, zF3_s a7, zF3_0]
  · rw [show (64 : Nat) = 8 + (8 + (8 + (8 + (8 + (8 + (8 + (8 + 0))))))) by rfl, zbt_s a0, zbt_s a1, zbt_s a2, zbt_s a3, zbt_s a4, zbt_s a5, zbt_s a6, zbt_s a7]
    simp only [zcnt]
    omega
