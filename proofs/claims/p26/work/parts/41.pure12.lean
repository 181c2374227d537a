/-! PURE 12: masks, and listings of sets of spots -/
theorem zk_sm : ∀ j : Nat, j < 13 → ((qI (j : Int) &&& 31).toBitVec.smod 32).toNat = j := by decide +kernel
theorem zk_pow : ∀ t : Nat, t < 13 → qshl 1 (t : Int) = ((2 ^ t : Nat) : Int) := by decide +kernel
theorem zk_not : ∀ t : Nat, t < 13 → (qI (qxor ((2 ^ t : Nat) : Int) (-1))).toBitVec.toNat = 4294967295 ^^^ 2 ^ t := by decide +kernel
theorem zI_of {x : Int32} {n : Nat} (h : x.toBitVec.toNat = n) (hn : n < 2147483648) : x.toInt = (n : Int) := by
  have h1 : x.toInt = x.toBitVec.toInt := rfl
  rw [h1, BitVec.toInt_eq_toNat_of_lt (by omega), h]
theorem zI_nat {n : Nat} (h : n < 4294967296) : (qI (n : Int)).toBitVec.toNat = n := by
  rw [qI_nat]
  exact pk_tn h
theorem zk_bit {l j : Nat} (hl : l < 4096) (hj : j < 13) : qand (qshr (l : Int) (j : Int)) 1 = if l.testBit j then 1 else 0 := by
  unfold qand qshr
  rw [qI_of, qI_nat, show Int32.ofNat l = nI l from rfl, pk_shrN (by omega) _ j (zk_sm j hj), show qI (1 : Int) = 1 by decide]
  have hd : l / 2 ^ j ≤ l := Nat.div_le_self _ _
  rw [pk_andN (by omega) 1 (by decide), nI_toInt (by omega), Nat.testBit_eq_decide_div_mod_eq]
  have hm : l / 2 ^ j % 2 < 2 := Nat.mod_lt _ (by decide)
  by_cases c : l / 2 ^ j % 2 = 1
  · simp [c]
  · have c2 : l / 2 ^ j % 2 = 0 := by omega
    simp [c2]
theorem zpow_lt {j : Nat} (hj : j < 12) : 2 ^ j < 4096 := Nat.pow_lt_pow_right (by decide) hj
theorem zk_or {l j : Nat} (hl : l < 4096) (hj : j < 12) : qor (l : Int) (qshl 1 (j : Int)) = ((l ||| 2 ^ j : Nat) : Int) := by
  have hp := zpow_lt hj
  have ho : l ||| 2 ^ j < 2 ^ 12 := Nat.or_lt_two_pow (by omega) (by omega)
  rw [zk_pow j (by omega)]
  unfold qor
  refine zI_of ?_ (by omega)
  have h1 : (qI (l : Int) ||| qI ((2 ^ j : Nat) : Int)).toBitVec = (qI (l : Int)).toBitVec ||| (qI ((2 ^ j : Nat) : Int)).toBitVec := rfl
  rw [h1, BitVec.toNat_or, zI_nat (by omega), zI_nat (by omega)]
theorem zk_and {l j : Nat} (hl : l < 4096) (hj : j < 12) : qand (l : Int) (qxor (qshl 1 (j : Int)) (-1)) = ((l &&& (4294967295 ^^^ 2 ^ j) : Nat) : Int) := by
  have hp := zpow_lt hj
  have ho : l &&& (4294967295 ^^^ 2 ^ j) ≤ l := Nat.and_le_left
  rw [zk_pow j (by omega)]
  unfold qand
  refine zI_of ?_ (by omega)
  have h1 : (qI (l : Int) &&& qI (qxor ((2 ^ j : Nat) : Int) (-1))).toBitVec = (qI (l : Int)).toBitVec &&& (qI (qxor ((2 ^ j : Nat) : Int) (-1))).toBitVec := rfl
  rw [h1, BitVec.toNat_and, zI_nat (by omega), zk_not j (by omega)]
/-- a mask without, and with, a bit -/
def zoff (l j : Nat) : Nat := l &&& (4294967295 ^^^ 2 ^ j)
def zon (l j : Nat) : Nat := l ||| 2 ^ j
theorem zoff_bit {l j k : Nat} (hk : k < 32) : (zoff l j).testBit k = (l.testBit k && !decide (k = j)) := by
  unfold zoff
  rw [Nat.testBit_and, Nat.testBit_xor, show (4294967295 : Nat) = 2 ^ 32 - 1 by rfl, Nat.testBit_two_pow_sub_one, Nat.testBit_two_pow]
  by_cases c : k = j
  · subst c
    simp [hk]
  · have c2 : ¬ j = k := fun z => c z.symm
    simp [hk, c, c2]
theorem zon_bit {l j k : Nat} : (zon l j).testBit k = (l.testBit k || decide (k = j)) := by
  unfold zon
  rw [Nat.testBit_or, Nat.testBit_two_pow]
  by_cases c : k = j
  · subst c
    simp
  · have c2 : ¬ j = k := fun z => c z.symm
    simp [c, c2]
theorem zoff_lt {l j : Nat} (h : l.testBit j = true) (hj : j < 32) : zoff l j < l := by
  have h1 : zoff l j ≤ l := Nat.and_le_left
  have h2 : zoff l j ≠ l := fun e => by
    have := zoff_bit (l := l) (j := j) (k := j) hj
    rw [e, h] at this
    simp at this
  omega
theorem zon_gt {l j : Nat} (h : l.testBit j = false) : l < zon l j := by
  have h1 : l ≤ zon l j := Nat.left_le_or
  have h2 : zon l j ≠ l := fun e => by
    have := zon_bit (l := l) (j := j) (k := j)
    rw [e, h] at this
    simp at this
  omega
theorem zon_lt {l j t : Nat} (h : l < 2 ^ t) (hj : j < t) : zon l j < 2 ^ t := Nat.or_lt_two_pow h (Nat.pow_lt_pow_right (by decide) hj)
/-- how many of the first t are in -/
def zcard (inn : Nat → Bool) : Nat → Nat
  | 0 => 0
  | n + 1 => zcard inn n + if inn n then 1 else 0
theorem zcard_c {f g : Nat → Bool} : ∀ t : Nat, (∀ k : Nat, k < t → f k = g k) → zcard f t = zcard g t
  | 0, _ => rfl
  | t + 1, h => by rw [zcard, zcard, zcard_c t (fun k hk => h k (by omega)), h t (by omega)]
theorem zcard_le (f : Nat → Bool) : ∀ t : Nat, zcard f t ≤ t
  | 0 => Nat.le_refl _
  | t + 1 => by
    have := zcard_le f t
    rw [zcard]
    split <;> omega
theorem zcard_off {f : Nat → Bool} {j : Nat} : ∀ t : Nat, j < t → f j = true → zcard (fun k => f k && !decide (k = j)) t + 1 = zcard f t
  | 0, h, _ => absurd h (by omega)
  | t + 1, h, hf => by
    rw [zcard, zcard]
    by_cases c : j = t
    · subst c
      rw [zcard_c (f := fun k => f k && !decide (k = j)) (g := f) j (fun k hk => by
        have : ¬ k = j := by omega
        simp [this]), hf]
      simp
    · have ih := zcard_off t (by omega) hf
      have c2 : ¬ t = j := fun z => c z.symm
      simp only [c2, decide_false, Bool.not_false, Bool.and_true]
      omega
theorem zcard_pos {f : Nat → Bool} {j : Nat} : ∀ t : Nat, j < t → f j = true → 0 < zcard f t
  | 0, h, _ => absurd h (by omega)
  | t + 1, h, hf => by
    rw [zcard]
    by_cases c : j = t
    · subst c
      rw [hf]
      simp
    · have := zcard_pos t (by omega) hf
      omega
theorem zcard_zero {f : Nat → Bool} : ∀ t : Nat, (∀ k : Nat, k < t → f k = false) → zcard f t = 0
  | 0, _ => rfl
  | t + 1, h => by
    rw [zcard, zcard_zero t (fun k hk => h k (by omega)), h t (by omega)]
    rfl
theorem zcard_ex {f : Nat → Bool} : ∀ t : Nat, 0 < zcard f t → ∃ j : Nat, j < t ∧ f j = true
  | 0, h => absurd h (Nat.lt_irrefl 0)
  | t + 1, h => by
    by_cases c : f t = true
    · exact ⟨t, by omega, c⟩
    · rw [zcard, if_neg c] at h
      obtain ⟨j, h1, h2⟩ := zcard_ex t (by omega)
      exact ⟨j, by omega, h2⟩
/-- the set of the spots e j, j < t, that are in -/
def zmem (e : Nat → Int) (inn : Nat → Bool) : Nat → Int → Bool
  | 0, _ => false
  | n + 1, k => (inn n && decide (e n = k)) || zmem e inn n k
theorem zmem_iff {e : Nat → Int} {inn : Nat → Bool} {k : Int} : ∀ t : Nat, zmem e inn t k = true ↔ ∃ j : Nat, j < t ∧ inn j = true ∧ e j = k
  | 0 => by simp [zmem]
  | t + 1 => by
    rw [zmem, Bool.or_eq_true, Bool.and_eq_true, decide_eq_true_eq, zmem_iff t]
    constructor
    · rintro (⟨h1, h2⟩ | ⟨j, h1, h2, h3⟩)
      · exact ⟨t, by omega, h1, h2⟩
      · exact ⟨j, by omega, h2, h3⟩
    · rintro ⟨j, h1, h2, h3⟩
      by_cases c : j = t
      · subst c
        exact Or.inl ⟨h2, h3⟩
      · exact Or.inr ⟨j, by omega, h2, h3⟩
def zdel (S : Int → Bool) (x k : Int) : Bool := S k && !decide (k = x)
theorem zset_ext {S T : Int → Bool} (h : ∀ k : Int, S k = true ↔ T k = true) : S = T := by
  funext k
  rw [Bool.eq_iff_iff]
  exact h k
theorem zmem_del {e : Nat → Int} {inn : Nat → Bool} {t j : Nat} (hinj : ∀ a b : Nat, a < t → b < t → e a = e b → a = b) (hj : j < t) : zdel (zmem e inn t) (e j) = zmem e (fun k => inn k && !decide (k = j)) t := by
  apply zset_ext
  intro k
  unfold zdel
  rw [Bool.and_eq_true, zmem_iff, zmem_iff]
  constructor
  · rintro ⟨⟨i, h1, h2, h3⟩, h4⟩
    refine ⟨i, h1, ?_, h3⟩
    have : ¬ i = j := fun z => by
      subst z
      simp [h3] at h4
    simp [h2, this]
  · rintro ⟨i, h1, h2, h3⟩
    rw [Bool.and_eq_true] at h2
    refine ⟨⟨i, h1, h2.1, h3⟩, ?_⟩
    have : ¬ k = e j := fun z => by
      have := hinj i j h1 hj (h3.trans z)
      simp [this] at h2
    simp [this]
theorem zmem_c {e : Nat → Int} {f g : Nat → Bool} {t : Nat} (h : ∀ j : Nat, j < t → f j = g j) : zmem e f t = zmem e g t := by
  apply zset_ext
  intro k
  rw [zmem_iff, zmem_iff]
  constructor
  · rintro ⟨i, h1, h2, h3⟩
    exact ⟨i, h1, (h i h1) ▸ h2, h3⟩
  · rintro ⟨i, h1, h2, h3⟩
    exact ⟨i, h1, (h i h1).symm ▸ h2, h3⟩
