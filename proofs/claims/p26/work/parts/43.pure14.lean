/-! PURE 14: the class's planning -/
theorem zoff_card {l t j : Nat} (ht : t ≤ 12) (hj : j < t) (hb : l.testBit j = true) : zcard (fun k => (zoff l j).testBit k) t + 1 = zcard (fun k => l.testBit k) t := by
  rw [← zcard_off (f := fun k => l.testBit k) t hj hb]
  congr 1
  exact zcard_c t (fun k hk => zoff_bit (by omega))
theorem zoff_mem {e : Nat → Int} {l t j : Nat} (ht : t ≤ 12) : zmem e (fun k => (zoff l j).testBit k) t = zmem e (fun k => l.testBit k && !decide (k = j)) t := zmem_c (fun k hk => zoff_bit (by omega))
/-- what rest holds -/
def zrs (sp : Nat → Int) (t l j : Nat) : Int := zT (zcard (fun k => l.testBit k) t) (zmem sp (fun k => l.testBit k) t) (sp j)
theorem zrs_b {sp : Nat → Int} {t l j : Nat} (hl : zLst sp t) (hj : j < t) : 0 ≤ zrs sp t l j ∧ zrs sp t l j ≤ 1000 := by
  have h1 := zT_b (S := zmem sp (fun k => l.testBit k) t) (zcard (fun k => l.testBit k) t) (zmem sp (fun k => l.testBit k) t) (sp j) (zmem_v hl) (hl.2.1 j hj)
  have h2 := zcard_le (fun k => l.testBit k) t
  have h3 := hl.1
  unfold zrs
  omega
theorem zrs_cl {sp : Nat → Int} {t l j n : Nat} {f : Int} (hl : zLst sp t) (hj : j < t) (hb : l.testBit j = true) (hn : n + 1 = zcard (fun k => l.testBit k) t) : zway f (sp j) + zrs sp t (zoff l j) j = zcl sp t (fun k => l.testBit k) n f j := by
  have h1 := zoff_card hl.1 hj hb
  unfold zrs zcl
  rw [zoff_mem hl.1, show zcard (fun k => (zoff l j).testBit k) t = n by omega]
/-- the numbers grow -/
def zAsc (sp : Nat → Int) (t : Nat) : Prop := ∀ a b : Nat, a ≤ b → b < t → sp a ≤ sp b
theorem s_X3_bestStep' {l t : Nat} {f : Int} {sp rs : Nat → Int} {Φ : Int → Prop} (hl : zLst sp t) (ha : zAsc sp t) (hlt : l < 4096) (hf : 0 ≤ f ∧ f < 64) (hrs : ∀ j : Nat, j < t → l.testBit j = true → rs (zoff l j * 12 + j) = zrs sp t (zoff l j) j) (h0 : zcard (fun k => l.testBit k) t = 0 → Φ (-1)) (h1 : ∀ n j0 : Nat, n + 1 = zcard (fun k => l.testBit k) t → j0 < t → l.testBit j0 = true → znx n (zmem sp (fun k => l.testBit k) t) f = sp j0 → zT (n + 1) (zmem sp (fun k => l.testBit k) t) f = zway f (sp j0) + zrs sp t (zoff l j0) j0 → Φ (j0 : Int)) : wp_X3_bestStep (l : Int) f (t : Int) sp rs Φ := by
  refine s_X3_bestStep hl hlt hf (fun j hj hb => by rw [hrs j hj hb]; exact zrs_b hl hj) (fun h => h0 (zcard_zero t h)) (fun j0 hj0 hb0 hopt => ?_)
  have hp := zcard_pos (f := fun k => l.testBit k) t hj0 hb0
  obtain ⟨n, hn⟩ : ∃ n : Nat, n + 1 = zcard (fun k => l.testBit k) t := ⟨zcard (fun k => l.testBit k) t - 1, by omega⟩
  have q := znx_l hl (inn := fun k => l.testBit k) (n := n) (f := f) hj0 hb0 (fun j hj hb => by
    have o := hopt j hj hb
    rw [hrs j hj hb, hrs j0 hj0 hb0, zrs_cl hl hj hb hn, zrs_cl hl hj0 hb0 hn] at o
    exact ⟨o.1, fun z => ha j0 j (o.2 z) hj⟩)
  refine h1 n j0 hn hj0 hb0 q.1 ?_
  rw [q.2, zrs_cl hl hj0 hb0 hn]
theorem s_X3_leastFrom {l t : Nat} {f : Int} {sp rs : Nat → Int} {Φ : Int → Prop} (hl : zLst sp t) (ha : zAsc sp t) (hlt : l < 4096) (hf : 0 ≤ f ∧ f < 64) (hrs : ∀ j : Nat, j < t → l.testBit j = true → rs (zoff l j * 12 + j) = zrs sp t (zoff l j) j) (h : Φ (zT (zcard (fun k => l.testBit k) t) (zmem sp (fun k => l.testBit k) t) f)) : wp_X3_leastFrom (l : Int) f (t : Int) sp rs Φ := by
  have h12 := hl.1
  unfold wp_X3_leastFrom wp_X3_leastFrom_22
  refine s_X3_bestStep' hl ha hlt hf hrs (fun e => ?_) (fun n j0 hn hj0 hb0 e1 e2 => ?_)
  · rw [e] at h
    exact ⟨(qR_i (by omega) (by omega)), fun c => absurd c (by omega), fun _ => h⟩
  · rw [← hn, e2] at h
    refine ⟨(qR_i (by omega) (by omega)), fun _ => s_X3_travelBy hl hlt hj0 hf ?_, fun c => absurd (by omega) c⟩
    rw [hrs j0 hj0 hb0]
    exact h
theorem s_X3_fillRest {t : Nat} {sp rs : Nat → Int} {Φ : (Nat → Int) → Prop} (hl : zLst sp t) (ha : zAsc sp t) (h : ∀ g : Nat → Int, (∀ l : Nat, l < 2 ^ t → ∀ j : Nat, j < t → l.testBit j = false → g (l * 12 + j) = zrs sp t l j) → Φ g) : wp_X3_fillRest (t : Int) sp rs Φ := by
  have h12 := hl.1
  have hp : 2 ^ t ≤ 4096 := Nat.pow_le_pow_right (n := 2) (by decide) h12
  generalize hP : (2 : Nat) ^ t = P at hp h
  unfold wp_X3_fillRest
  refine zl2 (fun (x : Int) (g : Nat → Int) => 0 ≤ x ∧ x ≤ (P : Int) ∧ ∀ l : Nat, (l : Int) < x → ∀ j : Nat, j < t → l.testBit j = false → g (l * 12 + j) = zrs sp t l j) (fun x g => (P : Int) - x) (fun n x g hi ih => ?_) _ _ ⟨by omega, by omega, fun l hl => absurd hl (by omega)⟩
  obtain ⟨i1, i2, i3⟩ := hi
  obtain ⟨l, rfl⟩ := Int.eq_ofNat_of_zero_le i1
  unfold wp_X3_fillRest_2
  intro v10 e10
  rw [zk_pow t (by omega), hP] at e10
  refine ⟨⟨(qR_i (by omega) (by omega)), (qR_i (by omega) (by omega))⟩, fun c => h g (fun l' hl' => i3 l' (by omega)), fun c => ?_⟩
  refine zl2 (fun (y : Int) (g' : Nat → Int) => 0 ≤ y ∧ y ≤ (t : Int) ∧ (∀ l' : Nat, l' < l → ∀ j : Nat, j < t → l'.testBit j = false → g' (l' * 12 + j) = zrs sp t l' j) ∧ ∀ j : Nat, (j : Int) < y → l.testBit j = false → g' (l * 12 + j) = zrs sp t l j) (fun y g' => (t : Int) - y) (fun m y g' hj ih2 => ?_) _ _ ⟨by omega, by omega, fun l' hl' => i3 l' (by omega), fun j hj => absurd hj (by omega)⟩
  obtain ⟨j1, j2, j3, j4⟩ := hj
  obtain ⟨i, rfl⟩ := Int.eq_ofNat_of_zero_le j1
  unfold wp_X3_fillRest_14
  refine ⟨⟨(qR_i (by omega) (by omega)), (qR_i (by omega) (by omega))⟩, fun c2 v3 e3 => ?_, fun c2 v4 e4 v5 e5 => ?_⟩
  · rw [e3]
    refine ih _ _ ⟨by omega, by omega, fun l' hl' j hj hb => ?_⟩ (show ((P : Int) - ((l : Int) + 1)).toNat < ((P : Int) - (l : Int)).toNat by omega)
    by_cases z : l' = l
    · rw [z] at hb ⊢
      exact j4 j (by omega) hb
    · exact j3 l' (by omega) j hj hb
  · rw [e4, zk_bit (by omega) (by omega)] at e5
    have step : ∀ g2 : Nat → Int, (∀ l' : Nat, l' < l → ∀ j : Nat, j < t → l'.testBit j = false → g2 (l' * 12 + j) = zrs sp t l' j) → (∀ j : Nat, (j : Int) < (i : Int) + 1 → l.testBit j = false → g2 (l * 12 + j) = zrs sp t l j) → wp_X3_fillRest_52 Φ (wp_X3_fillRest_2 Φ (t : Int) sp n) (wp_X3_fillRest_14 Φ (wp_X3_fillRest_2 Φ (t : Int) sp n) (l : Int) (t : Int) sp m) (l : Int) (i : Int) (t : Int) sp g2 := by
      intro g2 k1 k2
      unfold wp_X3_fillRest_52
      intro v1 e1
      rw [e1]
      exact ih2 _ _ ⟨by omega, by omega, k1, k2⟩ (show ((t : Int) - ((i : Int) + 1)).toNat < ((t : Int) - (i : Int)).toNat by omega)
    by_cases cb : l.testBit i = true
    · rw [if_pos cb] at e5
      refine ⟨(qR_i (by omega) (by omega)), fun _ => step g' j3 (fun j hj hb => ?_), fun z => absurd (by omega) z⟩
      by_cases z : j = i
      · rw [z, cb] at hb
        exact absurd hb (by decide)
      · exact j4 j (by omega) hb
    · rw [if_neg cb] at e5
      refine ⟨(qR_i (by omega) (by omega)), fun z => absurd e5 z, fun _ => ⟨⟨by omega, by omega⟩, fun v7 e7 => ?_⟩⟩
      have e7 : v7 = sp i := e7
      have hv := hl.2.1 i (by omega)
      rw [e7]
      refine s_X3_leastFrom hl ha (by omega) hv (fun j hj hb => j3 _ (zoff_lt hb (by omega)) j hj ?_) ⟨⟨by omega, by omega⟩, fun g9 e9 => ?_⟩
      · rw [zoff_bit (by omega)]
        simp
      · rw [show ((l : Int) * 12 + (i : Int)).toNat = l * 12 + i by omega] at e9
        refine step g9 (fun l' hl' j hj hb => ?_) (fun j hj hb => ?_)
        · rw [e9, qU_a, if_neg (by omega)]
          exact j3 l' hl' j hj hb
        · rw [e9, qU_a]
          by_cases z : j = i
          · subst z
            rw [if_pos rfl]
            rfl
          · rw [if_neg (by omega)]
            exact j4 j (by omega) hb
/-- the set of spots of a long -/
def zsp (x : Int64) (k : Int) : Bool := decide (0 ≤ k ∧ k < 64 ∧ zb x k.toNat = 1)
def zAll (e : Nat → Int) (t : Nat) : Int → Bool := zmem e (fun _ => true) t
theorem zcnt_more {f : Nat → Int} {i k : Nat} (hf : ∀ j : Nat, 0 ≤ f j) (hk : f k = 1) : ∀ n : Nat, i ≤ k → k < n → zcnt f i + 1 ≤ zcnt f n
  | 0, _, h => absurd h (by omega)
  | n + 1, h1, h2 => by
    rw [zcnt]
    have hfn := hf n
    by_cases c : k = n
    · subst c
      have key : ∀ m : Nat, zcnt f i ≤ zcnt f (i + m) := by
        intro m
        induction m with
        | zero => exact Int.le_refl _
        | succ m ih =>
          rw [show i + (m + 1) = (i + m) + 1 by omega, zcnt]
          have := hf (i + m)
          omega
      have := key (k - i)
      rw [show i + (k - i) = k by omega] at this
      omega
    · have := zcnt_more hf hk n h1 (by omega)
      omega
theorem s_X3_listSpots {x : Int64} {tz : Int} {sp : Nat → Int} {Φ : Int → (Nat → Int) → Prop} (hx : zcnt (zb x) 64 ≤ 12) (h : ∀ (t : Nat) (g : Nat → Int), (t : Int) = zcnt (zb x) 64 → zLst g t → zAsc g t → zAll g t = zsp x → Φ (t : Int) g) : wp_X3_listSpots x tz sp Φ := by
  unfold wp_X3_listSpots
  have hnn : ∀ j : Nat, 0 ≤ zb x j := fun j => by have := zb_01 x j; omega
  refine zl3 (fun (i tz : Int) (g : Nat → Int) => 0 ≤ i ∧ i ≤ 64 ∧ (0 ≤ tz ∧ tz ≤ 12) ∧ tz = zcnt (zb x) i.toNat ∧ (∀ j : Nat, (j : Int) < tz → 0 ≤ g j ∧ g j < i ∧ zb x (g j).toNat = 1) ∧ (∀ a b : Nat, a < b → (b : Int) < tz → g a < g b) ∧ ∀ k : Nat, (k : Int) < i → zb x k = 1 → ∃ j : Nat, (j : Int) < tz ∧ g j = k) (fun i tz g => 64 - i) (fun n i tz g hi ih => ?_) _ _ _ ⟨by omega, by omega, ⟨by omega, by omega⟩, rfl, fun j hj => absurd hj (by omega), fun a b _ hb => absurd hb (by omega), fun k hk => absurd hk (by omega)⟩
  obtain ⟨i1, i2, i3, i4, i5, i6, i7⟩ := hi
  have fin : (∀ k : Nat, k < 64 → zb x k = 1 → ∃ j : Nat, (j : Int) < tz ∧ g j = k) → tz = zcnt (zb x) 64 → Φ tz g := by
    intro hall htz
    obtain ⟨t, rfl⟩ := Int.eq_ofNat_of_zero_le i3.1
    refine h t g htz ⟨by omega, fun j hj => ?_, fun a b ha hb e => ?_⟩ (fun a b hab hb => ?_) ?_
    · have := i5 j (by omega)
      omega
    · by_cases c : a = b
      · exact c
      · rcases Nat.lt_or_gt_of_ne c with d | d
        · have := i6 a b d (by omega)
          omega
        · have := i6 b a d (by omega)
          omega
    · by_cases c : a = b
      · rw [c]; exact Int.le_refl _
      · have := i6 a b (by omega) (by omega)
        omega
    · apply zset_ext
      intro k
      unfold zAll zsp
      rw [zmem_iff, decide_eq_true_eq]
      constructor
      · rintro ⟨j, j1, -, j3⟩
        have := i5 j (by omega)
        rw [← j3]
        exact ⟨this.1, by omega, this.2.2⟩
      · rintro ⟨k1, k2, k3⟩
        obtain ⟨j, j1, j2⟩ := hall k.toNat (by omega) k3
        exact ⟨j, by omega, rfl, by omega⟩
  unfold wp_X3_listSpots_7 wp_X3_listSpots_60
  refine ⟨⟨(qR_i (by omega) (by omega)), (qR_i (by omega) (by omega))⟩, fun c => fin (fun k hk => i7 k (by omega)) (by rw [i4, show i.toNat = 64 by omega]), fun c => ⟨⟨(qR_i (by omega) (by omega)), (qR_i (by omega) (by omega))⟩, fun c2 => fin (fun k hk hk2 => ?_) ?_, fun c2 => s_X4_bit ⟨by omega, by omega⟩ ?_⟩⟩
  · by_cases z : (k : Int) < i
    · exact i7 k z hk2
    · have := zcnt_more hnn hk2 (i := i.toNat) 64 (by omega) (by omega)
      omega
  · have key : ∀ m : Nat, zcnt (zb x) i.toNat ≤ zcnt (zb x) (i.toNat + m) := by
      intro m
      induction m with
      | zero => exact Int.le_refl _
      | succ m ih =>
        rw [show i.toNat + (m + 1) = (i.toNat + m) + 1 by omega, zcnt]
        have := hnn (i.toNat + m)
        omega
    have := key (64 - i.toNat)
    rw [show i.toNat + (64 - i.toNat) = 64 by omega] at this
    omega
  · have h01 := zb_01 x i.toNat
    refine ⟨⟨(qR_i (by omega) (by omega)), (qR_i (by omega) (by omega))⟩, fun c3 => ?_, fun c3 => ⟨⟨by omega, by omega⟩, fun g6 e6 v7 e7 => ?_⟩⟩
    · unfold wp_X3_listSpots_54
      intro v1 e1
      rw [e1]
      refine ih _ _ _ ⟨by omega, by omega, i3, ?_, fun j hj => ?_, i6, fun k hk hk2 => ?_⟩ (show (64 - (i + 1)).toNat < (64 - i).toNat by omega)
      · rw [show (i + 1).toNat = i.toNat + 1 by omega, zcnt]
        omega
      · have := i5 j hj
        exact ⟨this.1, by omega, this.2.2⟩
      · by_cases z : (k : Int) < i
        · exact i7 k z hk2
        · rw [show k = i.toNat by omega] at hk2
          omega
    · unfold wp_X3_listSpots_54
      intro v1 e1
      rw [e1, e7]
      refine ih _ _ _ ⟨by omega, by omega, ⟨by omega, by omega⟩, ?_, fun j hj => ?_, fun a b hab hb => ?_, fun k hk hk2 => ?_⟩ (show (64 - (i + 1)).toNat < (64 - i).toNat by omega)
      · rw [show (i + 1).toNat = i.toNat + 1 by omega, zcnt]
        omega
      · rw [e6, qU_a]
        by_cases z : j = tz.toNat
        · rw [if_pos z]
          exact ⟨by omega, by omega, by omega⟩
        · rw [if_neg z]
          have := i5 j (by omega)
          exact ⟨this.1, by omega, this.2.2⟩
      · rw [e6, qU_a, qU_a, if_neg (show ¬ a = tz.toNat by omega)]
        by_cases z : b = tz.toNat
        · rw [if_pos z]
          exact (i5 a (by omega)).2.1
        · rw [if_neg z]
          exact i6 a b hab (by omega)
      · by_cases z : (k : Int) < i
        · obtain ⟨j, j1, j2⟩ := i7 k z hk2
          refine ⟨j, by omega, ?_⟩
          rw [e6, qU_a, if_neg (by omega)]
          exact j2
        · refine ⟨tz.toNat, by omega, ?_⟩
          rw [e6, qU_a, if_pos rfl]
          omega
