/-! PURE 19: texts; the class's reading of tokens -/
def zsg (tl : Int) (tx : Nat → Int) (k : Nat) : Int := if (k : Int) < tl then tx k else -1
def zTx (tl : Int) (tx : Nat → Int) : Prop := (0 ≤ tl ∧ tl ≤ 140) ∧ ∀ k : Nat, (k : Int) < tl → 1 ≤ tx k ∧ tx k ≤ 255
theorem zsg_in {tl : Int} {tx : Nat → Int} {k : Nat} (h : (k : Int) < tl) : zsg tl tx k = tx k := if_pos h
theorem zsg_out {tl : Int} {tx : Nat → Int} {k : Nat} (h : ¬ (k : Int) < tl) : zsg tl tx k = -1 := if_neg h
theorem zsg_b {tl : Int} {tx : Nat → Int} (h : zTx tl tx) (k : Nat) : -1 ≤ zsg tl tx k ∧ zsg tl tx k ≤ 255 := by
  unfold zsg
  by_cases c : (k : Int) < tl
  · rw [if_pos c]
    have := h.2 k c
    omega
  · rw [if_neg c]
    omega
def zwh (P : Int → Bool) (sg : Nat → Int) : Nat → Nat → Nat
  | 0, k => k
  | n + 1, k => if P (sg k) = true then zwh P sg n (k + 1) else k
/-- the first place from k on at which P does not hold -/
def zend (P : Int → Bool) (sg : Nat → Int) (k : Nat) : Nat := zwh P sg (141 - k) k
def zSp (c : Int) : Bool := decide (c = 32)
def zLe (c : Int) : Bool := decide (97 ≤ c ∧ c ≤ 122)
def zDi (c : Int) : Bool := decide (48 ≤ c ∧ c ≤ 57)
theorem zend_s {P : Int → Bool} {sg : Nat → Int} {k : Nat} (hk : k ≤ 140) (h : P (sg 140) = false) : zend P sg k = if P (sg k) = true then zend P sg (k + 1) else k := by
  unfold zend
  rw [show 141 - k = (141 - (k + 1)) + 1 by omega, zwh]
theorem zend_y {P : Int → Bool} {sg : Nat → Int} {k : Nat} (hk : k ≤ 140) (h : P (sg 140) = false) (c : P (sg k) = true) : zend P sg k = zend P sg (k + 1) := by rw [zend_s hk h, if_pos c]
theorem zend_n {P : Int → Bool} {sg : Nat → Int} {k : Nat} (hk : k ≤ 140) (h : P (sg 140) = false) (c : P (sg k) = false) : zend P sg k = k := by rw [zend_s hk h, if_neg (by rw [c]; decide)]
theorem zend_b {P : Int → Bool} {tl : Int} {tx : Nat → Int} (ht : zTx tl tx) (hP : P (-1) = false) : ∀ (m k : Nat), (k : Int) ≤ tl → tl.toNat - k = m → k ≤ zend P (zsg tl tx) k ∧ (zend P (zsg tl tx) k : Int) ≤ tl ∧ P (zsg tl tx (zend P (zsg tl tx) k)) = false ∧ ∀ j : Nat, k ≤ j → j < zend P (zsg tl tx) k → P (zsg tl tx j) = true := by
  have h140 : P (zsg tl tx 140) = false := by
    rw [zsg_out (by have := ht.1; omega)]
    exact hP
  intro m
  induction m with
  | zero =>
    intro k hk hm
    have hc : P (zsg tl tx k) = false := by
      rw [zsg_out (by omega)]
      exact hP
    rw [zend_n (by have := ht.1; omega) h140 hc]
    exact ⟨Nat.le_refl _, hk, hc, fun j h1 h2 => absurd h2 (by omega)⟩
  | succ m ih =>
    intro k hk hm
    by_cases c : P (zsg tl tx k) = true
    · have hne : (k : Int) ≠ tl := fun z => by
        rw [zsg_out (by omega), hP] at c
        exact absurd c (by decide)
      obtain ⟨q1, q2, q3, q4⟩ := ih (k + 1) (by omega) (by omega)
      rw [zend_y (by have := ht.1; omega) h140 c]
      refine ⟨by omega, q2, q3, fun j h1 h2 => ?_⟩
      by_cases z : j = k
      · rw [z]; exact c
      · exact q4 j (by omega) h2
    · have c := Bool.eq_false_iff.mpr c
      rw [zend_n (by have := ht.1; omega) h140 c]
      exact ⟨Nat.le_refl _, hk, c, fun j h1 h2 => absurd h2 (by omega)⟩
theorem z140 {P : Int → Bool} {tl : Int} {tx : Nat → Int} (ht : zTx tl tx) (hP : P (-1) = false) : P (zsg tl tx 140) = false := by
  rw [zsg_out (by have := ht.1; omega)]
  exact hP
theorem s_X0_moveTo {p : Nat} {tl pp : Int} {tx : Nat → Int} {Φ : Int → Prop} (ht : zTx tl tx) (hp : (p : Int) ≤ tl) (h : Φ (zend zSp (zsg tl tx) p : Nat)) : wp_X0_moveTo (p : Int) tl pp tx Φ := by
  have ht1 := ht.1
  have h140 := z140 (P := zSp) ht (by decide)
  unfold wp_X0_moveTo
  refine zl1 (fun (x : Int) => ∃ k : Nat, x = k ∧ (k : Int) ≤ tl ∧ Φ (zend zSp (zsg tl tx) k : Nat)) (fun x => tl - x) (fun n x hi ih => ?_) _ ⟨p, rfl, hp, h⟩
  obtain ⟨k, rfl, h1, h2⟩ := hi
  unfold wp_X0_moveTo_5 wp_X0_moveTo_43
  refine ⟨⟨(qR_i (by omega) (by omega)), (qR_i (by omega) (by omega))⟩, fun c => ?_, fun c => ⟨⟨by omega, by omega⟩, fun v2 e2 => ?_⟩⟩
  · rw [zend_n (by omega) h140 (by rw [zsg_out (by omega)]; decide)] at h2
    exact h2
  · have e2 : v2 = tx k := e2
    have hv := ht.2 k (by omega)
    rw [← e2] at hv
    refine ⟨⟨(qR_i (by omega) (by omega)), (qR_i (by omega) (by omega))⟩, fun c2 => ?_, fun c2 v4 e4 => ?_⟩
    · rw [zend_n (by omega) h140 (by rw [zsg_in (by omega), ← e2]; unfold zSp; exact decide_eq_false c2)] at h2
      exact h2
    · rw [zend_y (by omega) h140 (by rw [zsg_in (by omega), ← e2]; unfold zSp; exact decide_eq_true (by omega))] at h2
      rw [e4]
      exact ih _ ⟨k + 1, by omega, by omega, h2⟩ (show (tl - ((k : Int) + 1)).toNat < (tl - (k : Int)).toNat by omega)
/-- the words -/
def zwd (c : Nat) : List Int := [[108, 105, 103, 104, 116], [100, 97, 114, 107], [107, 105, 110, 100], [100, 117, 108, 108], [115, 101, 99, 114, 101, 116], [115, 111, 114, 116], [115, 119, 97, 112]].getD c []
def zlen (c : Nat) : Nat := (zwd c).length
def zch (c i : Nat) : Int := (zwd c).getD i 0
def zisW (sg : Nat → Int) (p e c : Nat) : Bool := decide (e = p + zlen c) && decide (∀ i : Nat, i < zlen c → sg (p + i) = zch c i)
def zwoN (q : Nat → Bool) : Nat → Nat → Int
  | 0, _ => -1
  | n + 1, c => if q c = true then (c : Int) else zwoN q n (c + 1)
/-- which word stands there; -1 if none -/
def zwo (sg : Nat → Int) (p : Nat) : Int := zwoN (zisW sg p (zend zLe sg p)) 7 0
theorem zwl_c : ∀ c : Nat, c < 7 → qWk (c : Int) < 7 ∧ qWl.getD (qWk (c : Int)) 0 = zlen c ∧ 4 ≤ zlen c ∧ zlen c ≤ 6 ∧ (∀ i : Nat, i < zlen c → qCh (qWk (c : Int)) i = zch c i) ∧ ∀ i : Nat, i < zlen c → 97 ≤ zch c i ∧ zch c i ≤ 122 := by decide +kernel
theorem s_X0_isWord {p e c : Nat} {tl : Int} {tx : Nat → Int} {Φ : Int → Prop} (ht : zTx tl tx) (hp : p ≤ e) (he : (e : Int) ≤ tl) (hc : c < 7) (h : Φ (if zisW (zsg tl tx) p e c = true then 1 else 0)) : wp_X0_isWord (e : Int) (qWk (c : Int)) (p : Int) tx Φ := by
  obtain ⟨w1, w2, w3, w4, w5, w6⟩ := zwl_c c hc
  have ht1 := ht.1
  unfold wp_X0_isWord
  rw [w2]
  refine ⟨w1, fun r7 e7 => ⟨⟨(qR_i (by omega) (by omega)), (qR_i (by omega) (by omega))⟩, fun c1 => ?_, fun c1 => ⟨Or.inl rfl, ?_⟩⟩⟩
  · refine zl1 (fun (i : Int) => 0 ≤ i ∧ i ≤ (zlen c : Int) ∧ ∀ j : Nat, (j : Int) < i → zsg tl tx (p + j) = zch c j) (fun i => (zlen c : Int) - i) (fun n i hi ih => ?_) _ ⟨by omega, by omega, fun j hj => absurd hj (by omega)⟩
    obtain ⟨i1, i2, i3⟩ := hi
    unfold wp_X0_isWord_17
    rw [w2]
    intro r1 e1
    refine ⟨⟨(qR_i (by omega) (by omega)), (qR_i (by omega) (by omega))⟩, fun c2 => ⟨Or.inr rfl, ?_⟩, fun c2 => ⟨⟨by omega, by omega⟩, fun v3 e3 => ⟨⟨by omega, by omega⟩, fun r4 e4 => ?_⟩⟩⟩
    · have : zisW (zsg tl tx) p e c = true := by
        unfold zisW
        rw [Bool.and_eq_true, decide_eq_true_eq, decide_eq_true_eq]
        exact ⟨by omega, fun j hj => i3 j (by omega)⟩
      rwa [if_pos this] at h
    · rw [w5 _ (by omega)] at e4
      have hq := w6 i.toNat (by omega)
      have e3' : v3 = zsg tl tx (p + i.toNat) := by
        rw [e3, zsg_in (by omega), show ((p : Int) + i).toNat = p + i.toNat by omega]
      have hb := zsg_b ht (p + i.toNat)
      refine ⟨⟨(qR_i (by omega) (by omega)), (qR_i (by omega) (by omega))⟩, fun c3 v6 e6 => ?_, fun c3 => ⟨Or.inl rfl, ?_⟩⟩
      · rw [e6]
        refine ih _ ⟨by omega, by omega, fun j hj => ?_⟩ (show ((zlen c : Int) - (i + 1)).toNat < ((zlen c : Int) - i).toNat by omega)
        by_cases z : j = i.toNat
        · rw [z, ← e3', c3, e4]
        · exact i3 j (by omega)
      · have : ¬ zisW (zsg tl tx) p e c = true := by
          unfold zisW
          rw [Bool.and_eq_true, decide_eq_true_eq, decide_eq_true_eq]
          rintro ⟨-, q⟩
          have := q i.toNat (by omega)
          rw [← e3', ← e4] at this
          exact c3 this
        rwa [if_neg this] at h
  · have : ¬ zisW (zsg tl tx) p e c = true := by
      unfold zisW
      rw [Bool.and_eq_true, decide_eq_true_eq]
      rintro ⟨q, -⟩
      omega
    rwa [if_neg this] at h
theorem zwoN_s (q : Nat → Bool) (a : Int) (ha : 0 ≤ a ∧ a < 7) : zwoN q (7 - a).toNat a.toNat = if q a.toNat = true then a else zwoN q (7 - (a + 1)).toNat (a + 1).toNat := by
  rw [show (7 - a).toNat = (7 - (a + 1)).toNat + 1 by omega, zwoN, show (a + 1).toNat = a.toNat + 1 by omega, show ((a.toNat : Nat) : Int) = a by omega]
theorem s_X0_readWord {p : Nat} {tl : Int} {tx : Nat → Int} {Φ : Int → Int → Prop} (ht : zTx tl tx) (hp : (p : Int) ≤ tl) (h1 : zwo (zsg tl tx) p = -1 → Φ (-1) (p : Int)) (h2 : ∀ c : Nat, c < 7 → zwo (zsg tl tx) p = c → Φ (c : Int) (zend zSp (zsg tl tx) (zend zLe (zsg tl tx) p) : Nat)) : wp_X0_readWord tl (p : Int) tx Φ := by
  have ht1 := ht.1
  have h140 := z140 (P := zLe) ht (by decide)
  have hE := zend_b (P := zLe) ht (by decide) _ p hp rfl
  unfold zwo at h1 h2
  have k41 : wp_X0_readWord_41 Φ (zend zLe (zsg tl tx) p : Nat) tl (p : Int) tx := by
    generalize zend zLe (zsg tl tx) p = e at hE h1 h2 ⊢
    unfold wp_X0_readWord_41
    refine zl1 (fun (a : Int) => 0 ≤ a ∧ a ≤ 7 ∧ zwoN (zisW (zsg tl tx) p e) (7 - a).toNat a.toNat = zwoN (zisW (zsg tl tx) p e) 7 0) (fun a => 7 - a) (fun n a hi ih => ?_) _ ⟨by omega, by omega, rfl⟩
    obtain ⟨i1, i2, i3⟩ := hi
    unfold wp_X0_readWord_43
    refine ⟨⟨(qR_i (by omega) (by omega)), (qR_i (by omega) (by omega))⟩, fun c => ?_, fun c => ⟨(qR_i (by omega) (by omega)), ?_⟩⟩
    · have ea : a = 7 := by omega
      subst ea
      exact h1 i3.symm
    · rw [zwoN_s _ a ⟨by omega, by omega⟩] at i3
      obtain ⟨c', rfl⟩ := Int.eq_ofNat_of_zero_le i1
      refine s_X0_isWord ht hE.1 hE.2.1 (by omega) ?_
      by_cases cw : zisW (zsg tl tx) p e c' = true
      · rw [if_pos cw]
        have cw' : zisW (zsg tl tx) p e (c' : Int).toNat = true := cw
        rw [if_pos cw'] at i3
        exact ⟨(qR_i (by omega) (by omega)), fun z => absurd z (by decide), fun _ => s_X0_moveTo ht hE.2.1 (h2 c' (by omega) i3.symm)⟩
      · rw [if_neg cw]
        have cw' : ¬ zisW (zsg tl tx) p e (c' : Int).toNat = true := cw
        rw [if_neg cw'] at i3
        refine ⟨(qR_i (by omega) (by omega)), fun _ v4 e4 => ?_, fun z => absurd rfl z⟩
        rw [e4]
        exact ih _ ⟨by omega, by omega, i3⟩ (show (7 - ((c' : Int) + 1)).toNat < (7 - (c' : Int)).toNat by omega)
  unfold wp_X0_readWord
  refine zl1 (fun (x : Int) => ∃ k : Nat, x = k ∧ (k : Int) ≤ tl ∧ zend zLe (zsg tl tx) k = zend zLe (zsg tl tx) p) (fun x => tl - x) (fun n x hi ih => ?_) _ ⟨p, rfl, hp, rfl⟩
  obtain ⟨k, rfl, i1, i2⟩ := hi
  unfold wp_X0_readWord_5
  refine ⟨⟨(qR_i (by omega) (by omega)), (qR_i (by omega) (by omega))⟩, fun c => ?_, fun c => ⟨⟨by omega, by omega⟩, fun v8 e8 => ?_⟩⟩
  · rw [zend_n (by omega) h140 (by rw [zsg_out (by omega)]; decide)] at i2
    rw [i2]
    exact k41
  · have e8 : v8 = tx k := e8
    have hv := ht.2 k (by omega)
    refine ⟨⟨(qR_i (by omega) (by omega)), (qR_i (by omega) (by omega))⟩, fun c2 => ?_, fun c2 => ⟨⟨by omega, by omega⟩, fun v10 e10 => ?_⟩⟩
    · rw [zend_n (by omega) h140 (by rw [zsg_in (by omega)]; unfold zLe; exact decide_eq_false (by omega))] at i2
      rw [i2]
      exact k41
    · have e10 : v10 = tx k := e10
      refine ⟨⟨(qR_i (by omega) (by omega)), (qR_i (by omega) (by omega))⟩, fun c3 => ?_, fun c3 v12 e12 => ?_⟩
      · rw [zend_n (by omega) h140 (by rw [zsg_in (by omega)]; unfold zLe; exact decide_eq_false (by omega))] at i2
        rw [i2]
        exact k41
      · rw [zend_y (by omega) h140 (by rw [zsg_in (by omega)]; unfold zLe; exact decide_eq_true (by omega))] at i2
        rw [e12]
        exact ih _ ⟨k + 1, by omega, by omega, i2⟩ (show (tl - ((k : Int) + 1)).toNat < (tl - (k : Int)).toNat by omega)
/-- the number of n digits from p on -/
def zdg (sg : Nat → Int) (p : Nat) : Nat → Int
  | 0 => 0
  | n + 1 => zdg sg p n * 10 + sg (p + n) - 48
/-- a number of at most four digits stands there, without a needless 0 -/
def znm (sg : Nat → Int) (p : Nat) : Bool := decide (p < zend zDi sg p ∧ zend zDi sg p ≤ p + 4 ∧ ¬ (p + 1 < zend zDi sg p ∧ sg p = 48))
def zvl (sg : Nat → Int) (p : Nat) : Int := zdg sg p (zend zDi sg p - p)
def zaf (sg : Nat → Int) (p : Nat) : Nat := zend zSp sg (zend zDi sg p)
theorem zdg_b {sg : Nat → Int} {p : Nat} : ∀ n : Nat, (∀ j : Nat, j < n → 48 ≤ sg (p + j) ∧ sg (p + j) ≤ 57) → 0 ≤ zdg sg p n ∧ zdg sg p n < 10 ^ n
  | 0, _ => by simp [zdg]
  | n + 1, h => by
    have ih := zdg_b n (fun j hj => h j (by omega))
    have hn := h n (by omega)
    have hp : (10 : Int) ^ (n + 1) = 10 ^ n * 10 := Int.pow_succ _ _
    simp only [zdg]
    rw [hp]
    omega
theorem s_X0_readNumber {p : Nat} {tl : Int} {tx : Nat → Int} {Φ : Int → Int → Prop} (ht : zTx tl tx) (hp : (p : Int) ≤ tl) (h1 : znm (zsg tl tx) p = false → Φ (-1) (p : Int)) (h2 : znm (zsg tl tx) p = true → (0 ≤ zvl (zsg tl tx) p ∧ zvl (zsg tl tx) p < 10000) → Φ (zvl (zsg tl tx) p) (zaf (zsg tl tx) p : Nat)) : wp_X0_readNumber tl (p : Int) tx Φ := by
  have ht1 := ht.1
  have h140 := z140 (P := zDi) ht (by decide)
  obtain ⟨E1, E2, E3, E4⟩ := zend_b (P := zDi) ht (by decide) _ p hp rfl
  unfold znm zvl zaf at *
  have hdig : ∀ j : Nat, j < zend zDi (zsg tl tx) p - p → 48 ≤ zsg tl tx (p + j) ∧ zsg tl tx (p + j) ≤ 57 := fun j hj => by
    have := E4 (p + j) (by omega) (by omega)
    unfold zDi at this
    exact of_decide_eq_true this
  generalize hd : zend zDi (zsg tl tx) p = d at *
  have k68 : wp_X0_readNumber_68 Φ (zdg (zsg tl tx) p (min (d - p) 4)) (d : Int) tl (p : Int) tx := by
    unfold wp_X0_readNumber_68 wp_X0_readNumber_104 wp_X0_readNumber_106
    intro v3 e3
    have fine : (p < d ∧ d ≤ p + 4 ∧ ¬ (p + 1 < d ∧ zsg tl tx p = 48)) → wp_X0_moveTo (d : Int) tl (p : Int) tx (fun (g2 : Int) => Φ (zdg (zsg tl tx) p (min (d - p) 4)) g2) := fun hq => by
      have hb := zdg_b (sg := zsg tl tx) (p := p) (d - p) (fun j hj => hdig j hj)
      have hb2 : (10 : Int) ^ (d - p) ≤ 10000 := by
        rcases (show d - p = 1 ∨ d - p = 2 ∨ d - p = 3 ∨ d - p = 4 by omega) with q | q | q | q <;> rw [q] <;> decide
      rw [Nat.min_eq_left (by omega)]
      exact s_X0_moveTo ht E2 (h2 (decide_eq_true hq) ⟨hb.1, by omega⟩)
    refine ⟨⟨(qR_i (by omega) (by omega)), (qR_i (by omega) (by omega))⟩, fun c => h1 (decide_eq_false (by omega)), fun c => ⟨⟨(qR_i (by omega) (by omega)), (qR_i (by omega) (by omega))⟩, fun c2 => h1 (decide_eq_false (by omega)), fun c2 => ⟨⟨(qR_i (by omega) (by omega)), (qR_i (by omega) (by omega))⟩, fun c3 => fine ⟨by omega, by omega, by omega⟩, fun c3 => ⟨⟨by omega, by omega⟩, fun v7 e7 => ?_⟩⟩⟩⟩
    have e7 : v7 = zsg tl tx p := by rw [zsg_in (by omega)]; exact e7
    have hb := zsg_b ht p
    exact ⟨⟨(qR_i (by omega) (by omega)), (qR_i (by omega) (by omega))⟩, fun c4 => fine ⟨by omega, by omega, by omega⟩, fun c4 => h1 (decide_eq_false (by omega))⟩
  unfold wp_X0_readNumber
  refine zl2 (fun (a x : Int) => ∃ k : Nat, x = k ∧ p ≤ k ∧ (k : Int) ≤ tl ∧ zend zDi (zsg tl tx) k = d ∧ k ≤ d ∧ a = zdg (zsg tl tx) p (min (k - p) 4)) (fun a x => tl - x) (fun n a x hi ih => ?_) _ _ ⟨p, rfl, Nat.le_refl _, hp, hd, E1, by rw [Nat.sub_self, Nat.zero_min]; rfl⟩
  obtain ⟨k, rfl, i1, i2, i3, i4, i5⟩ := hi
  have stop : zDi (zsg tl tx k) = false → wp_X0_readNumber_68 Φ a (k : Int) tl (p : Int) tx := fun hf => by
    rw [zend_n (by omega) h140 hf] at i3
    rw [i5, i3]
    exact k68
  unfold wp_X0_readNumber_7
  refine ⟨⟨(qR_i (by omega) (by omega)), (qR_i (by omega) (by omega))⟩, fun c => stop (by rw [zsg_out (by omega)]; decide), fun c => ⟨⟨by omega, by omega⟩, fun v11 e11 => ?_⟩⟩
  have e11 : v11 = tx k := e11
  have hv := ht.2 k (by omega)
  have hsk := zsg_in (tl := tl) (tx := tx) (k := k) (by omega)
  refine ⟨⟨(qR_i (by omega) (by omega)), (qR_i (by omega) (by omega))⟩, fun c2 => stop (by rw [hsk]; unfold zDi; exact decide_eq_false (by omega)), fun c2 => ⟨⟨by omega, by omega⟩, fun v13 e13 => ?_⟩⟩
  have e13 : v13 = tx k := e13
  refine ⟨⟨(qR_i (by omega) (by omega)), (qR_i (by omega) (by omega))⟩, fun c3 => stop (by rw [hsk]; unfold zDi; exact decide_eq_false (by omega)), fun c3 => ?_⟩
  have hdi : zDi (zsg tl tx k) = true := by
    rw [hsk]
    unfold zDi
    exact decide_eq_true (by omega)
  have i3' := i3
  rw [zend_y (by omega) h140 hdi] at i3'
  have hkd : k + 1 ≤ d := by
    have := (zend_b (P := zDi) ht (by decide) _ (k + 1) (by omega) rfl).1
    omega
  refine ⟨⟨(qR_i (by omega) (by omega)), (qR_i (by omega) (by omega))⟩, fun c4 => ?_, fun c4 => ⟨⟨by omega, by omega⟩, fun v16 e16 v17 e17 => ?_⟩⟩
  · unfold wp_X0_readNumber_62
    intro v9 e9
    rw [e9]
    exact ih _ _ ⟨k + 1, by omega, by omega, by omega, i3', hkd, by rw [i5, Nat.min_eq_right (by omega), Nat.min_eq_right (by omega)]⟩ (show (tl - ((k : Int) + 1)).toNat < (tl - (k : Int)).toNat by omega)
  · have e16 : v16 = tx k := e16
    unfold wp_X0_readNumber_62
    intro v9 e9
    rw [e9]
    refine ih _ _ ⟨k + 1, by omega, by omega, by omega, i3', hkd, ?_⟩ (show (tl - ((k : Int) + 1)).toNat < (tl - (k : Int)).toNat by omega)
    rw [Nat.min_eq_left (by omega)] at i5
    rw [Nat.min_eq_left (by omega), show k + 1 - p = (k - p) + 1 by omega, zdg, e17, i5, e16, show p + (k - p) = k by omega, hsk]
