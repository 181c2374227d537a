/-! PURE 15: following the plan; the model's reckoning of ways -/
theorem zcard_all {f : Nat → Bool} : ∀ t : Nat, (∀ k : Nat, k < t → f k = true) → zcard f t = t
  | 0, _ => rfl
  | t + 1, h => by
    rw [zcard, zcard_all t (fun k hk => h k (by omega)), h t (by omega)]
    rfl
theorem zpth_s (n : Nat) (S : Int → Bool) (f : Int) (q : Nat) : zpth (n + 1) S f (q + 1) = zpth n (zdel S (znx n S f)) (znx n S f) q := by
  show (if q + 1 = 0 then znx n S f else zpth n (zdel S (znx n S f)) (znx n S f) (q + 1 - 1)) = _
  rw [if_neg (by omega)]
  rfl
theorem s_X3_follow {t : Nat} {ts : Int} {sp rs so : Nat → Int} {Φ : Int → (Nat → Int) → Prop} (hl : zLst sp t) (ha : zAsc sp t) (hrs : ∀ l : Nat, l < 2 ^ t → ∀ j : Nat, j < t → l.testBit j = false → rs (l * 12 + j) = zrs sp t l j) (h : ∀ g : Nat → Int, (∀ p : Nat, p < t → g p = zpth t (zAll sp t) 0 p) → Φ (zT t (zAll sp t) 0) g) : wp_X3_follow (t : Int) ts sp rs so Φ := by
  have h12 := hl.1
  have hp : 2 ^ t ≤ 4096 := Nat.pow_le_pow_right (n := 2) (by decide) h12
  have hp1 : 0 < 2 ^ t := Nat.two_pow_pos t
  unfold wp_X3_follow
  intro v14 e14 v15 e15
  rw [zk_pow t (by omega)] at e14
  have hfull : ∀ k : Nat, k < t → (2 ^ t - 1).testBit k = true := fun k hk => by
    rw [Nat.testBit_two_pow_sub_one]
    exact decide_eq_true hk
  have hc0 : zcard (fun k => (2 ^ t - 1).testBit k) t = t := zcard_all t hfull
  have hm0 : zmem sp (fun k => (2 ^ t - 1).testBit k) t = zAll sp t := zmem_c hfull
  generalize zAll sp t = A at h hm0
  generalize hP : (2 : Nat) ^ t = P at *
  refine zl5 (fun (fr lf ps sm : Int) (g : Nat → Int) => (0 ≤ fr ∧ fr < 64) ∧ ∃ l p : Nat, lf = l ∧ l < P ∧ ps = p ∧ p ≤ t ∧ zcard (fun k => l.testBit k) t + p = t ∧ sm + zT (zcard (fun k => l.testBit k) t) (zmem sp (fun k => l.testBit k) t) fr = zT t A 0 ∧ (∀ q : Nat, q < p → g q = zpth t A 0 q) ∧ ∀ q : Nat, zpth t A 0 (p + q) = zpth (zcard (fun k => l.testBit k) t) (zmem sp (fun k => l.testBit k) t) fr q) (fun fr lf ps sm g => (t : Int) - ps) (fun n fr lf ps sm g hi ih => ?_) _ _ _ _ _ ⟨⟨by omega, by omega⟩, P - 1, 0, by omega, by omega, rfl, by omega, by omega, ?_, fun q hq => absurd hq (by omega), fun q => ?_⟩
  · obtain ⟨i1, l, p, rfl, i3, rfl, i5, i6, i7, i8, i9⟩ := hi
    unfold wp_X3_follow_18
    refine ⟨⟨(qR_i (by omega) (by omega)), (qR_i (by omega) (by omega))⟩, fun c => ?_, fun c => ?_⟩
    · rw [show zcard (fun k => l.testBit k) t = 0 by omega] at i7
      have i7 : sm + 0 = zT t A 0 := i7
      rw [show sm = zT t A 0 by omega]
      exact h g (fun q hq => i8 q (by omega))
    · refine s_X3_bestStep' hl ha (by omega) i1 (fun j hj hb => hrs _ (Nat.lt_trans (zoff_lt hb (by omega)) i3) j hj (by rw [zoff_bit (by omega)]; simp)) (fun e => absurd e (by omega)) (fun m j0 hm hj0 hb0 e1 e2 => ?_)
      have hv := hl.2.1 j0 hj0
      have hoff := zoff_card h12 hj0 hb0
      have hmem : zdel (zmem sp (fun k => l.testBit k) t) (sp j0) = zmem sp (fun k => (zoff l j0).testBit k) t := by rw [zmem_del hl.2.2 hj0, zoff_mem h12]
      rw [← hm] at i7 i9
      have i90 : zpth t A 0 (p + 0) = znx m (zmem sp (fun k => l.testBit k) t) fr := i9 0
      have i9s : ∀ q : Nat, zpth t A 0 (p + 1 + q) = zpth (zcard (fun k => (zoff l j0).testBit k) t) (zmem sp (fun k => (zoff l j0).testBit k) t) (sp j0) q := by
        intro q
        rw [show p + 1 + q = p + (q + 1) by omega, i9 (q + 1), zpth_s, e1, hmem, show zcard (fun k => (zoff l j0).testBit k) t = m by omega]
      refine ⟨(qR_i (by omega) (by omega)), fun _ => ⟨⟨by omega, by omega⟩, fun v4 e4 => ⟨⟨by omega, by omega⟩, fun g5 e5 => ⟨⟨by omega, by omega⟩, fun v6 e6 => ?_⟩⟩⟩, fun z => absurd (by omega) z⟩
      have e4 : v4 = sp j0 := e4
      have e6 : v6 = sp j0 := e6
      rw [e6]
      refine s_X4_way i1 hv (fun v8 e8 => ⟨⟨by omega, by omega⟩, fun v9 e9 v10 e10 v11 e11 v12 e12 v13 e13 => ?_⟩)
      have e9 : v9 = sp j0 := e9
      rw [e11, e10, zk_and (by omega) (by omega)] at e12
      have e12 : v12 = ((zoff l j0 : Nat) : Int) := e12
      rw [e9, e12, e13]
      refine ih _ _ _ _ _ ⟨hv, zoff l j0, p + 1, rfl, Nat.lt_trans (zoff_lt hb0 (by omega)) i3, by omega, by omega, by omega, ?_, fun q hq => ?_, i9s⟩ (show ((t : Int) - ((p : Int) + 1)).toNat < ((t : Int) - (p : Int)).toNat by omega)
      · unfold zrs at e2
        rw [e8]
        omega
      · rw [e5, qU_a]
        by_cases z : q = p
        · subst z
          rw [if_pos (by omega), e4, ← e1]
          exact i90.symm
        · rw [if_neg (by omega)]
          exact i8 q (by omega)
  · rw [hc0, hm0]
    omega
  · rw [hc0, hm0]
    congr 1
    omega
/-- the plan that is kept -/
def zPl (pn : Int64) (tz ts : Int) (so : Nat → Int) : Prop := ∃ t : Nat, tz = t ∧ t ≤ 12 ∧ (t : Int) = zcnt (zb pn) 64 ∧ ts = zT t (zsp pn) 0 ∧ ∀ p : Nat, p < t → so p = zpth t (zsp pn) 0 p
theorem s_X3_plan {x pn : Int64} {tz ts : Int} {sp rs so : Nat → Int} {Φ : Int64 → Int → Int → (Nat → Int) → (Nat → Int) → (Nat → Int) → Prop} (hx : zcnt (zb x) 64 ≤ 12) (hP : zPl pn tz ts so) (h : ∀ (tz' ts' : Int) (sp' rs' so' : Nat → Int), zPl x tz' ts' so' → Φ x tz' ts' sp' rs' so') : wp_X3_plan x pn tz ts sp rs so Φ := by
  unfold wp_X3_plan
  intro v1 e1
  unfold qlcmp at e1
  by_cases c : x = pn
  · subst c
    rw [if_neg (Int64.lt_irrefl), if_pos rfl] at e1
    exact ⟨(qR_i (by omega) (by omega)), fun z => absurd e1 z, fun _ => h _ _ _ _ _ hP⟩
  · have hv : v1 = 1 ∨ v1 = -1 := by
      rw [e1]
      by_cases d : pn < x
      · rw [if_pos d]
        exact Or.inl rfl
      · rw [if_neg d, if_neg c]
        exact Or.inr rfl
    refine ⟨(qR_i (by omega) (by omega)), fun _ => s_X3_listSpots hx (fun t g ht hl ha hs => s_X3_fillRest hl ha (fun g7 h7 => s_X3_follow hl ha h7 (fun g10 h10 => ?_))), fun z => absurd (by omega) z⟩
    rw [hs] at h10 ⊢
    exact h _ _ _ _ _ ⟨t, rfl, hl.1, ht, rfl, h10⟩
/-- the least cost is the least travel -/
theorem zT_min {e : Nat → Int} {t : Nat} (hl : zLst e t) {inn : Nat → Bool} {n : Nat} {f v : Int} (hex : ∃ j0 : Nat, j0 < t ∧ inn j0 = true ∧ v = zcl e t inn n f j0) (h : ∀ j : Nat, j < t → inn j = true → v ≤ zcl e t inn n f j) : zT (n + 1) (zmem e inn t) f = v := by
  obtain ⟨j0, a1, a2, a3⟩ := hex
  have hc : ∀ j : Nat, j < t → zcost (zT n) (zmem e inn t) f (e j) = zcl e t inn n f j := fun j hj2 => by
    unfold zcost zcl
    rw [zmem_del hl.2.2 hj2]
  have hv0 := hl.2.1 j0 a1
  show zval (zcost (zT n) (zmem e inn t) f) (zbst (zcost (zT n) (zmem e inn t) f) (zmem e inn t) 64) = v
  rcases zbst_s (zcost (zT n) (zmem e inn t) f) (zmem e inn t) 64 with ⟨h1, h2⟩ | ⟨b, h1, h2, h3, h4⟩
  · have := h2 (e j0).toNat (by omega)
    rw [show (((e j0).toNat : Nat) : Int) = e j0 by omega, (zmem_iff t).2 ⟨j0, a1, a2, rfl⟩] at this
    exact absurd this (by decide)
  · rw [h2]
    unfold zval
    rw [if_neg (by omega)]
    obtain ⟨j1, b1, b2, b3⟩ := (zmem_iff t).1 h3
    have q1 := h j1 b1 b2
    have q2 := (h4 (e j0).toNat (by omega) (by rw [show (((e j0).toNat : Nat) : Int) = e j0 by omega]; exact (zmem_iff t).2 ⟨j0, a1, a2, rfl⟩)).1
    rw [show (((e j0).toNat : Nat) : Int) = e j0 by omega, hc j0 a1, ← b3, hc j1 b1] at q2
    rw [← b3, hc j1 b1]
    omega
theorem zcl_b {e : Nat → Int} {t : Nat} (hl : zLst e t) {inn : Nat → Bool} {n : Nat} {f : Int} {j : Nat} (hj : j < t) (hn : n ≤ 12) (hf : 0 ≤ f ∧ f < 64) : 0 ≤ zcl e t inn n f j ∧ zcl e t inn n f j ≤ 1000 := by
  have hv := hl.2.1 j hj
  have hw := zway_b hf hv
  have h1 := zT_b (S := zmem e (fun k => inn k && !decide (k = j)) t) n (zmem e (fun k => inn k && !decide (k = j)) t) (e j) (zmem_v hl) hv
  unfold zcl
  omega
/-- not yet seen -/
def zun (m : Nat) (k : Nat) : Bool := !m.testBit k
theorem zun_on {m j : Nat} : zun (zon m j) = fun k => zun m k && !decide (k = j) := by
  funext k
  unfold zun
  rw [zon_bit]
  cases m.testBit k <;> simp
theorem zfull {m t : Nat} (hm : m < 2 ^ t) (h : ∀ j : Nat, j < t → m.testBit j = true) : m = 2 ^ t - 1 := by
  apply Nat.eq_of_testBit_eq
  intro j
  rw [Nat.testBit_two_pow_sub_one]
  by_cases c : j < t
  · rw [h j c, decide_eq_true c]
  · rw [decide_eq_false c]
    exact Nat.testBit_lt_two_pow (Nat.lt_of_lt_of_le hm (Nat.pow_le_pow_right (by decide) (by omega)))
