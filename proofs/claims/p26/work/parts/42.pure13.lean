/-! PURE 13: least travel through a set; the class's planning -/
/-- the first number below m in S of least cost; -1 if none -/
def zbst (c : Int → Int) (S : Int → Bool) : Nat → Int
  | 0 => -1
  | m + 1 => if S m = true ∧ (zbst c S m < 0 ∨ c m < c (zbst c S m)) then (m : Int) else zbst c S m
theorem zbst_s (c : Int → Int) (S : Int → Bool) : ∀ m : Nat, (zbst c S m = -1 ∧ ∀ k : Nat, k < m → S k = false) ∨ ∃ b : Nat, b < m ∧ zbst c S m = b ∧ S b = true ∧ ∀ k : Nat, k < m → S k = true → c b ≤ c k ∧ (c k = c b → b ≤ k)
  | 0 => Or.inl ⟨rfl, fun k hk => absurd hk (by omega)⟩
  | m + 1 => by
    rw [zbst]
    rcases zbst_s c S m with ⟨h1, h2⟩ | ⟨b, h1, h2, h3, h4⟩
    · by_cases hs : S m = true
      · rw [if_pos ⟨hs, Or.inl (by omega)⟩]
        refine Or.inr ⟨m, by omega, rfl, hs, fun k hk hk2 => ?_⟩
        by_cases e : k = m
        · subst e
          exact ⟨Int.le_refl _, fun _ => Nat.le_refl _⟩
        · rw [h2 k (by omega)] at hk2
          exact absurd hk2 (by decide)
      · rw [if_neg (fun z => hs z.1)]
        refine Or.inl ⟨h1, fun k hk => ?_⟩
        by_cases e : k = m
        · subst e
          exact Bool.eq_false_iff.mpr hs
        · exact h2 k (by omega)
    · by_cases hs : S m = true ∧ (zbst c S m < 0 ∨ c m < c (zbst c S m))
      · rw [if_pos hs]
        obtain ⟨hs1, hs2⟩ := hs
        rw [h2] at hs2
        refine Or.inr ⟨m, by omega, rfl, hs1, fun k hk hk2 => ?_⟩
        by_cases e : k = m
        · subst e
          exact ⟨Int.le_refl _, fun _ => Nat.le_refl _⟩
        · have := h4 k (by omega) hk2
          exact ⟨by omega, fun z => by omega⟩
      · rw [if_neg hs]
        refine Or.inr ⟨b, by omega, h2, h3, fun k hk hk2 => ?_⟩
        by_cases e : k = m
        · subst e
          rw [h2] at hs
          have : ¬ c k < c b := fun z => hs ⟨hk2, Or.inr z⟩
          exact ⟨by omega, fun _ => by omega⟩
        · exact h4 k (by omega) hk2
theorem zbst_u {c : Int → Int} {S : Int → Bool} {b : Int} (hb : 0 ≤ b ∧ b < 64) (hS : S b = true) (h : ∀ k : Int, S k = true → c b ≤ c k ∧ (c k = c b → b ≤ k)) : zbst c S 64 = b := by
  obtain ⟨n, rfl⟩ := Int.eq_ofNat_of_zero_le hb.1
  rcases zbst_s c S 64 with ⟨h1, h2⟩ | ⟨a, h1, h2, h3, h4⟩
  · rw [h2 n (by omega)] at hS
    exact absurd hS (by decide)
  · rw [h2]
    have e1 := h a h3
    have e2 := h4 n (by omega) hS
    have e3 : c (a : Int) = c (n : Int) := by omega
    have e4 := e1.2 e3
    have e5 := e2.2 e3.symm
    omega
def zcost (g : (Int → Bool) → Int → Int) (S : Int → Bool) (f k : Int) : Int := zway f k + g (zdel S k) k
def zval (c : Int → Int) (b : Int) : Int := if b < 0 then 0 else c b
/-- the least travel from f through all of S (n many) -/
def zT : Nat → (Int → Bool) → Int → Int
  | 0 => fun _ _ => 0
  | n + 1 => fun S f => zval (zcost (zT n) S f) (zbst (zcost (zT n) S f) S 64)
/-- the next stop -/
def znx (n : Nat) (S : Int → Bool) (f : Int) : Int := zbst (zcost (zT n) S f) S 64
/-- the stops, one behind the other -/
def zpth : Nat → (Int → Bool) → Int → Nat → Int
  | 0 => fun _ _ _ => -9
  | n + 1 => fun S f p => if p = 0 then znx n S f else zpth n (zdel S (znx n S f)) (znx n S f) (p - 1)
theorem zT_b {S : Int → Bool} : ∀ (n : Nat) (S : Int → Bool) (f : Int), (∀ k : Int, S k = true → 0 ≤ k ∧ k < 64) → (0 ≤ f ∧ f < 64) → 0 ≤ zT n S f ∧ zT n S f ≤ 14 * n
  | 0, S, f, _, _ => by simp [zT]
  | n + 1, S, f, hS, hf => by
    show 0 ≤ zval (zcost (zT n) S f) (zbst (zcost (zT n) S f) S 64) ∧ zval (zcost (zT n) S f) (zbst (zcost (zT n) S f) S 64) ≤ 14 * ((n + 1 : Nat) : Int)
    rcases zbst_s (zcost (zT n) S f) S 64 with ⟨h1, h2⟩ | ⟨b, h1, h2, h3, h4⟩
    · rw [h1]
      unfold zval
      rw [if_pos (by omega)]
      omega
    · rw [h2]
      unfold zval zcost
      rw [if_neg (by omega)]
      have hb := hS b h3
      have hw := zway_b hf hb
      have ih := zT_b (S := S) n (zdel S b) b (fun k hk => by
        unfold zdel at hk
        rw [Bool.and_eq_true] at hk
        exact hS k hk.1) hb
      omega
theorem zT_none {S : Int → Bool} (h : ∀ k : Int, S k = false) (f : Int) : ∀ n : Nat, zT n S f = 0
  | 0 => rfl
  | n + 1 => by
    show zval (zcost (zT n) S f) (zbst (zcost (zT n) S f) S 64) = 0
    rcases zbst_s (zcost (zT n) S f) S 64 with ⟨h1, h2⟩ | ⟨b, h1, h2, h3, h4⟩
    · rw [h1]
      rfl
    · rw [h b] at h3
      exact absurd h3 (by decide)
/-- e lists spots, each once -/
def zLst (e : Nat → Int) (t : Nat) : Prop := t ≤ 12 ∧ (∀ j : Nat, j < t → 0 ≤ e j ∧ e j < 64) ∧ ∀ a b : Nat, a < t → b < t → e a = e b → a = b
theorem zmem_v {e : Nat → Int} {t : Nat} (hl : zLst e t) {inn : Nat → Bool} : ∀ k : Int, zmem e inn t k = true → 0 ≤ k ∧ k < 64 := by
  intro k hk
  obtain ⟨j, h1, -, h3⟩ := (zmem_iff t).1 hk
  rw [← h3]
  exact hl.2.1 j h1
/-- what going from f to e j costs -/
def zcl (e : Nat → Int) (t : Nat) (inn : Nat → Bool) (n : Nat) (f : Int) (j : Nat) : Int := zway f (e j) + zT n (zmem e (fun k => inn k && !decide (k = j)) t) (e j)
theorem znx_l {e : Nat → Int} {t : Nat} (hl : zLst e t) {inn : Nat → Bool} {n : Nat} {f : Int} {j0 : Nat} (hj : j0 < t) (hi : inn j0 = true) (h : ∀ j : Nat, j < t → inn j = true → zcl e t inn n f j0 ≤ zcl e t inn n f j ∧ (zcl e t inn n f j = zcl e t inn n f j0 → e j0 ≤ e j)) : znx n (zmem e inn t) f = e j0 ∧ zT (n + 1) (zmem e inn t) f = zcl e t inn n f j0 := by
  have hv := hl.2.1 j0 hj
  have hc : ∀ j : Nat, j < t → zcost (zT n) (zmem e inn t) f (e j) = zcl e t inn n f j := fun j hj2 => by
    unfold zcost zcl
    rw [zmem_del hl.2.2 hj2]
  have e1 : znx n (zmem e inn t) f = e j0 := by
    refine zbst_u hv ((zmem_iff t).2 ⟨j0, hj, hi, rfl⟩) (fun k hk => ?_)
    obtain ⟨j, j1, j2, j3⟩ := (zmem_iff t).1 hk
    rw [← j3, hc j j1, hc j0 hj]
    exact h j j1 j2
  refine ⟨e1, ?_⟩
  show zval (zcost (zT n) (zmem e inn t) f) (znx n (zmem e inn t) f) = _
  rw [e1]
  unfold zval
  rw [if_neg (by omega), hc j0 hj]
theorem s_X3_travelBy {l t j : Nat} {f : Int} {sp rs : Nat → Int} {Φ : Int → Prop} (hl : zLst sp t) (hlt : l < 4096) (hj : j < t) (hf : 0 ≤ f ∧ f < 64) (h : Φ (zway f (sp j) + rs (zoff l j * 12 + j))) : wp_X3_travelBy (l : Int) f (j : Int) sp rs Φ := by
  have h12 := hl.1
  have hv := hl.2.1 j hj
  unfold wp_X3_travelBy
  refine ⟨⟨by omega, by omega⟩, fun v1 e1 => ?_⟩
  have e1 : v1 = sp j := e1
  rw [e1]
  refine s_X4_way hf hv (fun v3 e3 v4 e4 v5 e5 => ?_)
  rw [e4, e3, zk_and hlt (by omega)] at e5
  have e5 : v5 = ((zoff l j : Nat) : Int) := e5
  have hle : zoff l j ≤ l := Nat.and_le_left
  refine ⟨⟨by omega, by omega⟩, fun v6 e6 => ?_⟩
  rw [show (v5 * 12 + (j : Int)).toNat = zoff l j * 12 + j by omega] at e6
  rw [e6]
  exact h
theorem s_X3_bestStep {l t : Nat} {f : Int} {sp rs : Nat → Int} {Φ : Int → Prop} (hl : zLst sp t) (hlt : l < 4096) (hf : 0 ≤ f ∧ f < 64) (hrs : ∀ j : Nat, j < t → l.testBit j = true → 0 ≤ rs (zoff l j * 12 + j) ∧ rs (zoff l j * 12 + j) ≤ 1000) (h0 : (∀ j : Nat, j < t → l.testBit j = false) → Φ (-1)) (h1 : ∀ j0 : Nat, j0 < t → l.testBit j0 = true → (∀ j : Nat, j < t → l.testBit j = true → zway f (sp j0) + rs (zoff l j0 * 12 + j0) ≤ zway f (sp j) + rs (zoff l j * 12 + j) ∧ (zway f (sp j) + rs (zoff l j * 12 + j) = zway f (sp j0) + rs (zoff l j0 * 12 + j0) → j0 ≤ j)) → Φ (j0 : Int)) : wp_X3_bestStep (l : Int) f (t : Int) sp rs Φ := by
  have h12 := hl.1
  unfold wp_X3_bestStep
  refine zl3 (fun (b least i : Int) => 0 ≤ i ∧ i ≤ (t : Int) ∧ ((b = -1 ∧ ∀ j : Nat, (j : Int) < i → l.testBit j = false) ∨ ∃ j0 : Nat, b = j0 ∧ (j0 : Int) < i ∧ l.testBit j0 = true ∧ least = zway f (sp j0) + rs (zoff l j0 * 12 + j0) ∧ ∀ j : Nat, (j : Int) < i → l.testBit j = true → zway f (sp j0) + rs (zoff l j0 * 12 + j0) ≤ zway f (sp j) + rs (zoff l j * 12 + j) ∧ (zway f (sp j) + rs (zoff l j * 12 + j) = zway f (sp j0) + rs (zoff l j0 * 12 + j0) → j0 ≤ j))) (fun (b least i : Int) => (t : Int) - i) (fun n b least i hi ih => ?_) _ _ _ ⟨by omega, by omega, Or.inl ⟨rfl, fun j hj => absurd hj (by omega)⟩⟩
  obtain ⟨i1, i2, i3⟩ := hi
  obtain ⟨m, rfl⟩ := Int.eq_ofNat_of_zero_le i1
  unfold wp_X3_bestStep_8
  refine ⟨⟨(qR_i (by omega) (by omega)), (qR_i (by omega) (by omega))⟩, fun c => ?_, fun c v3 e3 v4 e4 => ?_⟩
  · rcases i3 with ⟨a1, a2⟩ | ⟨j0, a1, a2, a3, a4, a5⟩
    · rw [a1]
      exact h0 (fun j hj => a2 j (by omega))
    · rw [a1]
      exact h1 j0 (by omega) a3 (fun j hj => a5 j (by omega))
  · have hm : m < t := by omega
    rw [e3, zk_bit hlt (by omega)] at e4
    have step : ∀ b' least' : Int, ((b' = -1 ∧ ∀ j : Nat, (j : Int) < (m : Int) + 1 → l.testBit j = false) ∨ ∃ j0 : Nat, b' = j0 ∧ (j0 : Int) < (m : Int) + 1 ∧ l.testBit j0 = true ∧ least' = zway f (sp j0) + rs (zoff l j0 * 12 + j0) ∧ ∀ j : Nat, (j : Int) < (m : Int) + 1 → l.testBit j = true → zway f (sp j0) + rs (zoff l j0 * 12 + j0) ≤ zway f (sp j) + rs (zoff l j * 12 + j) ∧ (zway f (sp j) + rs (zoff l j * 12 + j) = zway f (sp j0) + rs (zoff l j0 * 12 + j0) → j0 ≤ j)) → wp_X3_bestStep_55 Φ (wp_X3_bestStep_8 Φ (l : Int) f (t : Int) sp rs n) (l : Int) f b' least' (m : Int) (t : Int) sp rs := by
      intro b' least' hb
      unfold wp_X3_bestStep_55
      intro v1 e1
      rw [e1]
      exact ih _ _ _ ⟨by omega, by omega, hb⟩ (show ((t : Int) - ((m : Int) + 1)).toNat < ((t : Int) - (m : Int)).toNat by omega)
    have hnew : l.testBit m = true → (∀ j : Nat, (j : Int) < (m : Int) → l.testBit j = true → zway f (sp m) + rs (zoff l m * 12 + m) < zway f (sp j) + rs (zoff l j * 12 + j)) → wp_X3_bestStep_48 Φ (wp_X3_bestStep_8 Φ (l : Int) f (t : Int) sp rs n) (l : Int) f (m : Int) (zway f (sp m) + rs (zoff l m * 12 + m)) (t : Int) sp rs := by
      intro hb hlt2
      unfold wp_X3_bestStep_48
      refine step _ _ (Or.inr ⟨m, rfl, by omega, hb, rfl, fun j hj hj2 => ?_⟩)
      by_cases z : j = m
      · subst z
        exact ⟨Int.le_refl _, fun _ => Nat.le_refl _⟩
      · have := hlt2 j (by omega) hj2
        exact ⟨by omega, fun y => by omega⟩
    by_cases cb : l.testBit m = true
    · rw [if_pos cb] at e4
      have hv := hl.2.1 m hm
      have hw := zway_b hf hv
      have hr := hrs m hm cb
      refine ⟨⟨(qR_i (by omega) (by omega)), (qR_i (by omega) (by omega))⟩, fun c2 => absurd e4 c2, fun _ => s_X3_travelBy hl hlt hm hf ?_⟩
      rcases i3 with ⟨a1, a2⟩ | ⟨j0, a1, a2, a3, a4, a5⟩
      · refine ⟨(qR_i (by omega) (by omega)), fun _ => hnew cb (fun j hj hj2 => ?_), fun z => absurd (by omega) z⟩
        rw [a2 j hj] at hj2
        exact absurd hj2 (by decide)
      · have hv0 := hl.2.1 j0 (by omega)
        have hw0 := zway_b hf hv0
        have hr0 := hrs j0 (by omega) a3
        refine ⟨(qR_i (by omega) (by omega)), fun z => absurd z (by omega), fun _ => ⟨⟨(qR_i (by omega) (by omega)), (qR_i (by omega) (by omega))⟩, fun c3 => step _ _ (Or.inr ⟨j0, a1, by omega, a3, a4, fun j hj hj2 => ?_⟩), fun c3 => hnew cb (fun j hj hj2 => ?_)⟩⟩
        · by_cases z : j = m
          · subst z
            exact ⟨by omega, fun _ => by omega⟩
          · exact a5 j (by omega) hj2
        · have := a5 j hj hj2
          omega
    · rw [if_neg cb] at e4
      refine ⟨⟨(qR_i (by omega) (by omega)), (qR_i (by omega) (by omega))⟩, fun _ => step _ _ ?_, fun z => absurd (show ¬ v4 = 1 by omega) z⟩
      have cf := Bool.eq_false_iff.mpr cb
      rcases i3 with ⟨a1, a2⟩ | ⟨j0, a1, a2, a3, a4, a5⟩
      · refine Or.inl ⟨a1, fun j hj => ?_⟩
        by_cases z : j = m
        · rw [z]; exact cf
        · exact a2 j (by omega)
      · refine Or.inr ⟨j0, a1, by omega, a3, a4, fun j hj hj2 => ?_⟩
        by_cases z : j = m
        · rw [z] at hj2
          exact absurd hj2 cb
        · exact a5 j (by omega) hj2
