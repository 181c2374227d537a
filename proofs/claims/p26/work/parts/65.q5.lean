/-! P26, 5: what is seen, and the mean -/
theorem zl7 {A B C D E F G : Type} {W : Nat → A → B → C → D → E → F → G → Prop} (I : A → B → C → D → E → F → G → Prop) (μ : A → B → C → D → E → F → G → Int) (step : ∀ n a b c d e f g, I a b c d e f g → (∀ a' b' c' d' e' f' g', I a' b' c' d' e' f' g' → (μ a' b' c' d' e' f' g').toNat < (μ a b c d e f g).toNat → W n a' b' c' d' e' f' g') → W (n + 1) a b c d e f g) (a : A) (b : B) (c : C) (d : D) (e : E) (f : F) (g : G) (h : I a b c d e f g) : ∃ n : Nat, W n a b c d e f g :=
  zl1 (W := fun n (s : A × B × C × D × E × F × G) => W n s.1 s.2.1 s.2.2.1 s.2.2.2.1 s.2.2.2.2.1 s.2.2.2.2.2.1 s.2.2.2.2.2.2) (fun s => I s.1 s.2.1 s.2.2.1 s.2.2.2.1 s.2.2.2.2.1 s.2.2.2.2.2.1 s.2.2.2.2.2.2) (fun s => μ s.1 s.2.1 s.2.2.1 s.2.2.2.1 s.2.2.2.2.1 s.2.2.2.2.2.1 s.2.2.2.2.2.2) (fun n s hs ih => step n s.1 s.2.1 s.2.2.1 s.2.2.2.1 s.2.2.2.2.1 s.2.2.2.2.2.1 s.2.2.2.2.2.2 hs (fun a' b' c' d' e' f' g' => ih (a', b', c', d', e', f', g'))) (a, b, c, d, e, f, g) h
section ZSEEN
variable {kp tl : Int} {tk : Nat → Int} {sz : Int} {ph od : Nat → Int} {pi : Nat → Int64} {se : Nat → Int} {Φ : Int → Prop}
theorem a_f0 (hG : zX sz ph od pi se) (h : Φ (zfst (zwr sz ph od pi se 0))) : wp_X4_firstWrong 0 sz ph od pi se Φ := a_firstWrong hG (by decide) h
theorem a_f1 (hG : zX sz ph od pi se) (h : Φ (zfst (zwr sz ph od pi se 1))) : wp_X4_firstWrong 1 sz ph od pi se Φ := a_firstWrong hG (by decide) h
theorem zc64 {f : Nat → Int} (hf : ∀ k : Nat, f k = 0 ∨ f k = 1) (n : Nat) : 0 ≤ zcnt f n ∧ zcnt f n ≤ n := zcnt_b n (fun k _ => by rcases hf k with q | q <;> rw [q] <;> decide)
theorem zfstN_d {f : Nat → Int} {x : Int} (hx : 0 ≤ x ∧ x ≤ 63) : zfstN f (63 - (x + -1)).toNat (x + -1 + 1).toNat = if f x.toNat = 1 then x else zfstN f (63 - x).toNat (x + 1).toNat := by
  rw [show (63 - (x + -1)).toNat = (63 - x).toNat + 1 by omega, show (x + -1 + 1).toNat = x.toNat by omega, zfstN, show (x + 1).toNat = x.toNat + 1 by omega]
  by_cases c : f x.toNat = 1
  · rw [if_pos c, if_pos c]
    omega
  · rw [if_neg c, if_neg c]
theorem zcnt_d {f : Nat → Int} {x : Int} (hx : 0 ≤ x) : zcnt f (x + 1).toNat = zcnt f (x + -1 + 1).toNat + f x.toNat := by
  rw [show (x + 1).toNat = x.toNat + 1 by omega, show (x + -1 + 1).toNat = x.toNat by omega, zcnt]
set_option maxHeartbeats 4000000 in
theorem a_isSeen (hG : zX sz ph od pi se) (f0 : tk 0 = 0 ∨ tk 0 = 1) (f1 : tk 1 = 0 ∨ tk 1 = 1) (h : Φ 1) : wp_L_isSeen kp tl tk sz ph od pi se Φ := by
  obtain ⟨A, eA⟩ : ∃ A : Nat → Int, A = zwr sz ph od pi se 0 := ⟨_, rfl⟩
  obtain ⟨B, eB⟩ : ∃ B : Nat → Int, B = zwr sz ph od pi se 1 := ⟨_, rfl⟩
  obtain ⟨C, eC⟩ : ∃ C : Nat → Int, C = zsee (zmean sz ph od se 0 (se 0)) (se 2) := ⟨_, rfl⟩
  obtain ⟨D, eD⟩ : ∃ D : Nat → Int, D = zsee (zmean sz ph od se (se 3) (se 4)) (se 5) := ⟨_, rfl⟩
  have hA : ∀ k : Nat, A k = 0 ∨ A k = 1 := fun k => by rw [eA]; exact zwr_b sz ph od pi se 0 k
  have hB : ∀ k : Nat, B k = 0 ∨ B k = 1 := fun k => by rw [eB]; exact zwr_b sz ph od pi se 1 k
  have hC : ∀ k : Nat, C k = 0 ∨ C k = 1 := fun k => by rw [eC]; exact zsee_b _ _ k
  have hD : ∀ k : Nat, D k = 0 ∨ D k = 1 := fun k => by rw [eD]; exact zsee_b _ _ k
  have kA : ∀ k : Nat, A k = zne (C k) (zb (pi 0) k) := fun k => by rw [eA, eC]; unfold zwr; rw [if_pos rfl]
  have kB : ∀ k : Nat, B k = zne (D k) (zb (pi 1) k) := fun k => by rw [eB, eD]; unfold zwr; rw [if_neg (by decide)]
  unfold wp_L_isSeen
  refine zl7 (fun (x1 x2 x3 x4 x5 x6 x7 : Int) => (-1 ≤ x7 ∧ x7 ≤ 63) ∧ x1 = zcnt A 64 - zcnt A (x7 + 1).toNat ∧ x2 = zcnt B 64 - zcnt B (x7 + 1).toNat ∧ x3 = zcnt C 64 - zcnt C (x7 + 1).toNat ∧ x4 = zcnt D 64 - zcnt D (x7 + 1).toNat ∧ x5 = zfstN A (63 - x7).toNat (x7 + 1).toNat ∧ x6 = zfstN B (63 - x7).toNat (x7 + 1).toNat) (fun _ _ _ _ _ _ x7 => x7 + 1) (fun n x1 x2 x3 x4 x5 x6 x7 hi ih => ?_) _ _ _ _ _ _ _ ⟨by decide, ?_, ?_, ?_, ?_, rfl, rfl⟩
  · obtain ⟨i0, i1, i2, i3, i4, i5, i6⟩ := hi
    unfold wp_L_isSeen_21
    refine ⟨(qR_i (by omega) (by omega)), fun c => ?_, fun c => ?_⟩
    · have e7 : x7 = -1 := by omega
      subst e7
      have z0 : ∀ f : Nat → Int, zcnt f ((-1 : Int) + 1).toNat = 0 := fun f => rfl
      rw [z0] at i1 i2 i3 i4
      have i5 : x5 = zfst A := i5
      have i6 : x6 = zfst B := i6
      have b1 := zc64 hA 64
      have b2 := zc64 hB 64
      have b3 := zc64 hC 64
      have b4 := zc64 hD 64
      have b5 := zfstN_b A 64 0
      have b6 := zfstN_b B 64 0
      unfold zfst at i5 i6
      refine a_c6 hG f0 f1 ?_
      rw [← eA]
      refine ⟨⟨(qR_i (by omega) (by omega)), (qR_i (by omega) (by omega))⟩, fun z => absurd (by omega) z, fun _ => a_c7 hG f0 f1 ?_⟩
      rw [← eB]
      refine ⟨⟨(qR_i (by omega) (by omega)), (qR_i (by omega) (by omega))⟩, fun z => absurd (by omega) z, fun _ => a_f0 hG ?_⟩
      rw [← eA]
      unfold zfst
      refine ⟨⟨(qR_i (by omega) (by omega)), (qR_i (by omega) (by omega))⟩, fun z => absurd (by omega) z, fun _ => a_f1 hG ?_⟩
      rw [← eB]
      unfold zfst
      refine ⟨⟨(qR_i (by omega) (by omega)), (qR_i (by omega) (by omega))⟩, fun z => absurd (by omega) z, fun _ => a_c4 hG f0 f1 ?_⟩
      rw [← eC]
      refine ⟨⟨(qR_i (by omega) (by omega)), (qR_i (by omega) (by omega))⟩, fun z => absurd (by omega) z, fun _ => a_c5 hG f0 f1 ?_⟩
      rw [← eD]
      refine ⟨⟨(qR_i (by omega) (by omega)), (qR_i (by omega) (by omega))⟩, fun z => absurd (by omega) z, fun _ => ?_⟩
      unfold wp_L_isSeen_222
      exact ⟨Or.inr rfl, h⟩
    · have hx : 0 ≤ x7 ∧ x7 < 64 := by omega
      have dA := zcnt_d (f := A) hx.1
      have dB := zcnt_d (f := B) hx.1
      have dC := zcnt_d (f := C) hx.1
      have dD := zcnt_d (f := D) hx.1
      have pA := zfstN_d (f := A) (x := x7) ⟨hx.1, by omega⟩
      have pB := zfstN_d (f := B) (x := x7) ⟨hx.1, by omega⟩
      have qA := hA x7.toNat
      have qB := hB x7.toNat
      have qC := hC x7.toNat
      have qD := hD x7.toNat
      have h127 : ∀ y1 y2 y5 y6 : Int, y1 = x1 + A x7.toNat → y2 = x2 + B x7.toNat → y5 = (if A x7.toNat = 1 then x7 else x5) → y6 = (if B x7.toNat = 1 then x7 else x6) → wp_L_isSeen_127 Φ (wp_L_isSeen_21 Φ kp tl tk sz ph od pi se n) y1 y2 x3 x4 y5 x7 y6 kp tl tk sz ph od pi se := by
        intro y1 y2 y5 y6 e1 e2 e5 e6
        unfold wp_L_isSeen_127
        refine a_s5 hG hx (fun v2 g2 => a_s6 hG hx (fun v4 g4 v5 g5 => ?_))
        rw [← eC] at g2
        rw [← eD] at g4
        subst g5
        refine ih _ _ _ _ _ _ _ ⟨by omega, by omega, by omega, by omega, by omega, ?_, ?_⟩ (by omega)
        · rw [pA, ← i5, e5]
        · rw [pB, ← i6, e6]
      have h113 : ∀ y1 y2 y5 : Int, y1 = x1 + A x7.toNat → y2 = x2 + B x7.toNat → y5 = (if A x7.toNat = 1 then x7 else x5) → wp_L_isSeen_113 Φ (wp_L_isSeen_21 Φ kp tl tk sz ph od pi se n) y1 y2 x3 x4 x6 x7 (B x7.toNat) y5 kp tl tk sz ph od pi se := by
        intro y1 y2 y5 e1 e2 e5
        unfold wp_L_isSeen_113
        refine ⟨(qR_i (by omega) (by omega)), fun z => h127 _ _ _ _ e1 e2 e5 ?_, fun z => h127 _ _ _ _ e1 e2 e5 ?_⟩
        · rw [if_neg (by omega)]
        · rw [if_pos (by omega)]
      have h99 : ∀ y1 k1 : Int, y1 = x1 + A x7.toNat → k1 = B x7.toNat → wp_L_isSeen_99 Φ (wp_L_isSeen_21 Φ kp tl tk sz ph od pi se n) y1 x3 x4 x5 x6 x7 (A x7.toNat) (B x7.toNat) x2 k1 kp tl tk sz ph od pi se := by
        intro y1 k1 e1 e2
        unfold wp_L_isSeen_99
        intro v7 e7
        refine ⟨(qR_i (by omega) (by omega)), fun z => h113 _ _ _ e1 (by omega) ?_, fun z => h113 _ _ _ e1 (by omega) ?_⟩
        · rw [if_neg (by omega)]
        · rw [if_pos (by omega)]
      have h86 : ∀ k1 : Int, k1 = A x7.toNat → wp_L_isSeen_86 Φ (wp_L_isSeen_21 Φ kp tl tk sz ph od pi se n) x2 x3 x4 x5 x6 x7 (A x7.toNat) (B x7.toNat) x1 k1 kp tl tk sz ph od pi se := by
        intro k1 e1
        unfold wp_L_isSeen_86
        intro v9 e9
        exact ⟨(qR_i (by omega) (by omega)), fun z => h99 _ _ (by omega) z.symm, fun z => h99 _ _ (by omega) (by omega)⟩
      have h73 : ∀ a b : Int, a = A x7.toNat → b = B x7.toNat → wp_L_isSeen_73 Φ (wp_L_isSeen_21 Φ kp tl tk sz ph od pi se n) x1 x2 x3 x4 x5 x6 x7 a b kp tl tk sz ph od pi se := by
        intro a b ea eb
        subst ea
        subst eb
        unfold wp_L_isSeen_73
        exact ⟨(qR_i (by omega) (by omega)), fun z => h86 _ z.symm, fun z => h86 _ (by omega)⟩
      have h48 : ∀ a : Int, a = A x7.toNat → wp_L_isSeen_48 Φ (wp_L_isSeen_21 Φ kp tl tk sz ph od pi se n) x1 x2 x3 x4 x5 x6 x7 a kp tl tk sz ph od pi se := by
        intro a ea
        unfold wp_L_isSeen_48
        refine a_s6 hG hx (a_s2 hG hx ?_)
        rw [← eD]
        have qb := zb_01 (pi 1) x7.toNat
        have kb := kB x7.toNat
        unfold zne at kb
        refine ⟨⟨(qR_i (by omega) (by omega)), (qR_i (by omega) (by omega))⟩, fun z => h73 _ _ ea ?_, fun z => h73 _ _ ea ?_⟩
        · rw [kb, if_pos z]
        · rw [kb, if_neg z]
      refine a_s5 hG hx (a_s1 hG hx ?_)
      rw [← eC]
      have qb := zb_01 (pi 0) x7.toNat
      have kb := kA x7.toNat
      unfold zne at kb
      refine ⟨⟨(qR_i (by omega) (by omega)), (qR_i (by omega) (by omega))⟩, fun z => h48 _ ?_, fun z => h48 _ ?_⟩
      · rw [kb, if_pos z]
      · rw [kb, if_neg z]
  all_goals (rw [show ((63 : Int) + 1).toNat = 64 from rfl, Int.sub_self])
theorem zmx_dark {per spot : Int} : ∀ n : Nat, zmx (zshine ph per (-9) spot) n = 0
  | 0 => rfl
  | n + 1 => by
    have e : zshine ph per (-9) spot (n : Int) = 0 := by
      unfold zshine
      rw [if_pos rfl]
    rw [zmx, zmx_dark n, e, if_neg (by decide)]
set_option maxHeartbeats 4000000 in
theorem a_isMean {x : Int} (hG : zX sz ph od pi se) (f0 : tk 0 = 0 ∨ tk 0 = 1) (f1 : tk 1 = 0 ∨ tk 1 = 1) (hx : 0 ≤ x ∧ x < 64) (h : Φ 1) : wp_L_isMean x kp tl tk sz ph od pi se Φ := by
  have ho := hG.2.1
  have hs := hG.2.2.1
  have hs0 := hs.1
  have hlb := zlit_b ho hs.2.1 x
  obtain ⟨f, ef⟩ : ∃ f : Int → Int, f = zshine ph (se 0) (zlit sz od se x) x := ⟨_, rfl⟩
  have hf : ∀ t, 0 ≤ t → t < se 0 → 0 ≤ f t ∧ f t ≤ 100 := fun t t0 t1 => by
    rw [ef]
    exact zshine_b (by omega) hlb ⟨t0, t1⟩
  have h119 : wp_L_isMean_119 Φ x (se 0) sz ph od se := by
    unfold wp_L_isMean_119 wp_L_isMean_134
    refine a_brightness hG (qR_i (by omega) (by omega)) (qR_i (by omega) (by omega)) ?_
    unfold zbri
    rw [if_neg (by omega)]
    exact ⟨⟨by decide, by decide⟩, fun z => absurd rfl z, fun _ => ⟨Or.inr rfl, h⟩⟩
  unfold wp_L_isMean
  refine a_c13 hG f0 f1 ?_
  refine zl4 (fun (x3 x4 x5 x6 : Int) => (0 ≤ x6 ∧ x6 ≤ se 0) ∧ x3 = zsum f (se 0) 0 x6.toNat ∧ x4 = zmn f x6.toNat ∧ x5 = zmx f x6.toNat) (fun _ _ _ x6 => se 0 - x6) (fun n x3 x4 x5 x6 hi ih => ?_) _ _ _ _ ⟨by omega, rfl, rfl, rfl⟩
  obtain ⟨i0, i3, i4, i5⟩ := hi
  have b1 := zmx_b (f := f) hf x6.toNat (by omega)
  have b2 := zsum_b (f := f) (per := se 0) (start := 0) (by omega) hf x6.toNat
  rw [← i4, ← i5] at b1
  rw [← i3] at b2
  unfold wp_L_isMean_19
  refine ⟨⟨(qR_i (by omega) (by omega)), (qR_i (by omega) (by omega))⟩, fun c => ?_, fun c => ?_⟩
  · have e6 : x6 = se 0 := by omega
    subst e6
    have bq : 0 ≤ x3 / se 0 ∧ x3 / se 0 ≤ x3 := ⟨Int.ediv_nonneg b2.1 (by omega), Int.ediv_le_self _ b2.1⟩
    refine a_s7 hG hx ?_
    have em : zmean sz ph od se 0 (se 0) x = x3 / se 0 := by
      unfold zmean
      rw [i3, ef]
    rw [em]
    refine ⟨⟨⟨by omega, by omega⟩, by omega, by omega⟩, fun v7 e7 => ?_⟩
    subst e7
    refine ⟨⟨(qR_i (by omega) (by omega)), (qR_i (by omega) (by omega))⟩, fun z => absurd rfl z, fun _ => a_s9 hG hx ?_⟩
    rw [← ef, ← i4, ← i5]
    refine ⟨⟨(qR_i (by omega) (by omega)), (qR_i (by omega) (by omega))⟩, fun z => absurd rfl z, fun _ => a_s4 hG hx ?_⟩
    refine ⟨(qR_i (by omega) (by omega)), fun _ => h119, fun z => ⟨(qR_i (by omega) (by omega)), fun z2 => ?_, fun _ => h119⟩⟩
    have e9 : zlit sz od se x = -9 := by omega
    rw [e9] at ef
    exact absurd (by rw [i5, ef]; exact zmx_dark _) z2
  · refine a_brightness hG (qR_i (by omega) (by omega)) (qR_i (by omega) (by omega)) ?_
    unfold zbri
    rw [if_pos ⟨hx, by omega, by omega⟩, ← ef]
    have hb := hf x6 (by omega) (by omega)
    have e6 : ((x6.toNat : Nat) : Int) = x6 := by omega
    have m3 : zsum f (se 0) 0 (x6 + 1).toNat = x3 + f x6 := by
      rw [show (x6 + 1).toNat = x6.toNat + 1 by omega, zsum, ← i3, e6, show (0 : Int) + x6 = x6 by omega, Int.emod_eq_of_lt (by omega) (by omega)]
    have m4 : zmn f (x6 + 1).toNat = if f x6 < x4 then f x6 else x4 := by
      rw [show (x6 + 1).toNat = x6.toNat + 1 by omega, zmn, ← i4, e6]
    have m5 : zmx f (x6 + 1).toNat = if x5 < f x6 then f x6 else x5 := by
      rw [show (x6 + 1).toNat = x6.toNat + 1 by omega, zmx, ← i5, e6]
    have h69 : ∀ v k4 k5 : Int, v = x3 + f x6 → k4 = (if f x6 < x4 then f x6 else x4) → k5 = (if x5 < f x6 then f x6 else x5) → wp_L_isMean_69 Φ (wp_L_isMean_19 Φ x (se 0) sz ph od pi se n) x (se 0) v k4 x6 k5 sz ph od pi se := by
      intro v k4 k5 e3 e4 e5
      unfold wp_L_isMean_69
      intro v3 g3
      subst g3
      exact ih _ _ _ _ ⟨by omega, by rw [m3, e3], by rw [m4, e4], by rw [m5, e5]⟩ (by omega)
    have h53 : ∀ v k4 : Int, v = x3 + f x6 → k4 = (if f x6 < x4 then f x6 else x4) → wp_L_isMean_53 Φ (wp_L_isMean_19 Φ x (se 0) sz ph od pi se n) x (se 0) v x5 x6 (f x6) k4 sz ph od pi se := by
      intro v k4 e3 e4
      unfold wp_L_isMean_53
      refine ⟨⟨(qR_i (by omega) (by omega)), (qR_i (by omega) (by omega))⟩, fun z => h69 _ _ _ e3 e4 ?_, fun z => h69 _ _ _ e3 e4 ?_⟩
      · rw [if_neg (by omega)]
      · rw [if_pos (by omega)]
    intro v15 e15
    refine ⟨⟨(qR_i (by omega) (by omega)), (qR_i (by omega) (by omega))⟩, fun z => h53 _ _ e15 ?_, fun z => h53 _ _ e15 ?_⟩
    · rw [if_neg (by omega)]
    · rw [if_pos (by omega)]
end ZSEEN
