/-! PURE 7: wrong spots by start; sorting (the class's side) -/
theorem zsum_slide {f : Int → Int} {per start : Int} : ∀ n : Nat, zsum f per (start + 1) n = zsum f per start n + (f ((start + n) % per) - f (start % per))
  | 0 => by
    rw [zsum, zsum, show start + ((0 : Nat) : Int) = start by omega]
    omega
  | n + 1 => by
    rw [zsum, zsum, zsum_slide n, show start + 1 + (n : Int) = start + ((n + 1 : Nat) : Int) by omega]
    omega
theorem s_X1_countSeen {spot sz : Int} {ph od se : Nat → Int} {pi : Nat → Int64} {wa : Nat → Int} {Φ : (Nat → Int) → Prop} (hsp : 0 ≤ spot ∧ spot < 64) (hph : zPh ph) (ho : zOk sz od) (hs : zSe se) (h : ∀ g : Nat → Int, (∀ j : Nat, (j : Int) < se 0 → g j = wa j + if se 5 ≤ zmean sz ph od se j (se 4) spot then 1 - 2 * zb (pi 1) spot.toNat else 0) → Φ g) : wp_X1_countSeen spot sz ph od pi se wa Φ := by
  have hs' := hs
  obtain ⟨s0, s1, s2, s3, s4, s5⟩ := hs'
  have hl := zlit_b ho s1 spot
  have h01 := zb_01 (pi 1) spot.toNat
  have key : wp_X1_countSeen_19 Φ spot (1 - 2 * zb (pi 1) spot.toNat) sz ph od se wa := by
    unfold wp_X1_countSeen_19
    refine ⟨by decide, fun v17 e17 => ?_⟩
    have e17 : v17 = se 4 := e17
    subst e17
    refine s_X1_litTick ho hs (qR_i (by omega) (by omega)) ?_
    refine s_X1_sumOver hsp hph ho hs ⟨by omega, by omega⟩ ⟨by omega, by omega⟩ ?_
    have hf : ∀ t, 0 ≤ t → t < se 0 → 0 ≤ zshine ph (se 0) (zlit sz od se spot) spot t ∧ zshine ph (se 0) (zlit sz od se spot) spot t ≤ 100 := fun t h1 h2 => zshine_b (by omega) hl ⟨h1, h2⟩
    refine zl2 (fun b i => 0 ≤ i ∧ i ≤ se 4 ∧ b = i % se 0) (fun b i => se 4 - i) (fun n b i hi ih => ?_) _ _ ⟨by omega, by omega, by rw [Int.zero_emod]⟩
    obtain ⟨h1, h2, h3⟩ := hi
    have hb : 0 ≤ b ∧ b < se 0 := by rw [h3]; exact ⟨Int.emod_nonneg _ (by omega), Int.emod_lt_of_pos _ (by omega)⟩
    unfold wp_X1_countSeen_51
    refine ⟨⟨(qR_i (by omega) (by omega)), (qR_i (by omega) (by omega))⟩, fun c => ?_, fun c => s_X1_next hs hb (fun v16 e16 => ?_)⟩
    · have ei : i = se 4 := by omega
      subst ei
      refine zl4 (fun sum bh st g => 0 ≤ st ∧ st ≤ se 0 ∧ sum = zsum (zshine ph (se 0) (zlit sz od se spot) spot) (se 0) st (se 4).toNat ∧ bh = (st + se 4) % se 0 ∧ ∀ j : Nat, (j : Int) < se 0 → g j = wa j + if (j : Int) < st then (if se 5 ≤ zmean sz ph od se j (se 4) spot then 1 - 2 * zb (pi 1) spot.toNat else 0) else 0) (fun sum bh st g => se 0 - st) (fun n sum bh st g hi ih => ?_) _ _ _ _ ⟨by omega, by omega, rfl, by rw [h3]; congr 1; omega, fun j hj => by rw [if_neg (by omega)]; omega⟩
      obtain ⟨i1, i2, i3, i4, i5⟩ := hi
      have hm := zmean_b (start := st) (len := se 4) (spot := spot) (ph := ph) ho hs ⟨by omega, by omega⟩
      have hbh : 0 ≤ bh ∧ bh < se 0 := by rw [i4]; exact ⟨Int.emod_nonneg _ (by omega), Int.emod_lt_of_pos _ (by omega)⟩
      unfold wp_X1_countSeen_75 wp_X1_countSeen_155
      refine ⟨by decide, fun v6 e6 => ?_⟩
      have e6 : v6 = se 0 := e6
      refine ⟨⟨(qR_i (by omega) (by omega)), (qR_i (by omega) (by omega))⟩, fun c2 => ?_, fun c2 => ⟨⟨(qR_i (by omega) (by omega)), (qR_i (by omega) (by omega))⟩, fun c3 => absurd c3 (by omega), fun c3 => ?_⟩⟩
      · refine h g (fun j hj => ?_)
        rw [i5 j hj, if_pos (by omega)]
      · have hm1 := hm.1
        rw [← i3] at hm1
        refine s_X1_mean ⟨by omega, by omega⟩ ⟨by omega, by omega⟩ ?_
        have em : sum / se 4 = zmean sz ph od se st (se 4) spot := by rw [i3]; rfl
        rw [em]
        refine ⟨by decide, fun v10 e10 => ?_⟩
        have e10 : v10 = se 5 := e10
        have hm2 := hm.2
        have cont : ∀ g' : Nat → Int, (∀ j : Nat, (j : Int) < se 0 → g' j = wa j + if (j : Int) < st + 1 then (if se 5 ≤ zmean sz ph od se j (se 4) spot then 1 - 2 * zb (pi 1) spot.toNat else 0) else 0) → wp_X1_countSeen_117 Φ (wp_X1_countSeen_75 Φ spot (1 - 2 * zb (pi 1) spot.toNat) (se 4) (zlit sz od se spot) ph se n) spot (1 - 2 * zb (pi 1) spot.toNat) (se 4) (zlit sz od se spot) sum bh st ph se g' := by
          intro g' hg
          unfold wp_X1_countSeen_117
          refine s_X1_shine hsp hph hs hl hbh (s_X1_shine hsp hph hs hl ⟨by omega, by omega⟩ (fun v3 e3 => s_X1_next hs hbh (fun v5 e5 => ?_)))
          rw [e5]
          refine ih _ _ _ _ ⟨by omega, by omega, ?_, ?_, hg⟩ (show (se 0 - (st + 1)).toNat < (se 0 - st).toNat by omega)
          · rw [zsum_slide, ← i3, e3, show (((se 4).toNat : Nat) : Int) = se 4 by omega, ← i4, Int.emod_eq_of_lt i1 (by omega)]
          · rw [show st + 1 + se 4 = (st + se 4) + 1 by omega, zmod_s (by omega), ← i4]
        refine ⟨⟨(qR_i (by omega) (by omega)), (qR_i (by omega) (by omega))⟩, fun c4 => cont g (fun j hj => ?_), fun c4 => ⟨⟨by omega, by omega⟩, fun v12 e12 => ⟨⟨by omega, by omega⟩, fun g13 e13 => cont g13 (fun j hj => ?_)⟩⟩⟩
        · rw [i5 j hj]
          by_cases z : (j : Int) = st
          · rw [if_neg (by omega), if_pos (by omega), z, if_neg (by omega)]
          · by_cases y : (j : Int) < st
            · rw [if_pos y, if_pos (show (j : Int) < st + 1 by omega)]
            · rw [if_neg y, if_neg (show ¬ (j : Int) < st + 1 by omega)]
        · rw [e13]
          unfold qU
          by_cases z : j = st.toNat
          · rw [if_pos z, e12, ← z, i5 j hj, if_neg (by omega), if_pos (by omega), show (j : Int) = st by omega, if_pos (by omega)]
            omega
          · rw [if_neg z, i5 j hj]
            by_cases y : (j : Int) < st
            · rw [if_pos y, if_pos (show (j : Int) < st + 1 by omega)]
            · rw [if_neg y, if_neg (show ¬ (j : Int) < st + 1 by omega)]
    · rw [e16]
      refine ih _ _ ⟨by omega, by omega, ?_⟩ (show (se 4 - (i + 1)).toNat < (se 4 - i).toNat by omega)
      rw [zmod_s (by omega), ← h3]
  unfold wp_X1_countSeen
  refine ⟨by decide, fun v20 e20 => ?_⟩
  have e20 : v20 = pi 1 := e20
  subst e20
  refine s_X4_bit hsp ⟨⟨(qR_i (by omega) (by omega)), (qR_i (by omega) (by omega))⟩, fun c => ?_, fun c => ?_⟩
  · rw [show zb (pi 1) spot.toNat = 0 by omega] at key
    exact key
  · rw [show zb (pi 1) spot.toNat = 1 by omega] at key
    exact key
/-- wrong (1) or right (0) -/
def zne (a b : Int) : Int := if a = b then 0 else 1
theorem zcnt_upd1 {f g : Nat → Int} {v n : Nat} (hv : v < n) (h : ∀ k : Nat, k < n → k ≠ v → g k = f k) : zcnt g n = zcnt f n + (g v - f v) := by
  have := zcnt_upd v n h
  rwa [if_pos hv] at this
theorem s_X1_countWrong {sz : Int} {ph od se : Nat → Int} {pi : Nat → Int64} {wa : Nat → Int} {Φ : (Nat → Int) → Prop} (hph : zPh ph) (ho : zOk sz od) (hs : zSe se) (h : ∀ g : Nat → Int, (∀ j : Nat, (j : Int) < se 0 → g j = zcnt (fun k => zne (zsee (zmean sz ph od se j (se 4)) (se 5) k) (zb (pi 1) k)) 64) → Φ g) : wp_X1_countWrong sz ph od pi se wa Φ := by
  have hs' := hs
  obtain ⟨s0, s1, s2, s3, s4, s5⟩ := hs'
  have ho0 := ho.1
  unfold wp_X1_countWrong
  refine ⟨by decide, fun v6 e6 => s_J13_bitCount (s_J7_fill (fun g hg => ?_))⟩
  have e6 : v6 = pi 1 := e6
  subst e6
  refine zl2 (fun i g => 0 ≤ i ∧ i ≤ sz ∧ ∀ j : Nat, (j : Int) < se 0 → g j = zcnt (fun k => zb (pi 1) k + if zposN od k i.toNat = -9 then 0 else zsee (zmean sz ph od se j (se 4)) (se 5) k * (1 - 2 * zb (pi 1) k)) 64) (fun i g => sz - i) (fun n i g hi ih => ?_) _ _ ⟨by omega, by omega, fun j hj => ?_⟩
  · obtain ⟨h1, h2, h3⟩ := hi
    unfold wp_X1_countWrong_15
    refine ⟨⟨(qR_i (by omega) (by omega)), (qR_i (by omega) (by omega))⟩, fun c => h g (fun j hj => ?_), fun c => ⟨⟨by omega, by omega⟩, fun v2 e2 => ?_⟩⟩
    · rw [h3 j hj]
      refine zcnt_c 64 (fun k hk => ?_)
      have h01 := zb_01 (pi 1) k
      by_cases z : zposN od k i.toNat = -9
      · have z2 : zpos sz od k = -9 := by
          rw [← z]
          unfold zpos
          rw [show i.toNat = sz.toNat by omega]
        have c2 := zmean_dark (ph := ph) (start := (j : Int)) (len := se 4) (zlit_dark (se := se) z2)
        have c3 : zsee (zmean sz ph od se j (se 4)) (se 5) k = 0 := by
          unfold zsee
          rw [if_neg (by omega)]
        simp only [c3]
        rw [if_pos z]
        unfold zne
        split <;> omega
      · rw [if_neg z]
        have h02 : zsee (zmean sz ph od se j (se 4)) (se 5) k = 0 ∨ zsee (zmean sz ph od se j (se 4)) (se 5) k = 1 := by
          unfold zsee
          split
          · exact Or.inr rfl
          · exact Or.inl rfl
        unfold zne
        rcases h01 with q | q <;> rcases h02 with w | w <;> rw [q, w] <;> decide
    · have hv := ho.2.1 i.toNat (by omega)
      rw [← e2] at hv
      refine s_X1_countSeen hv hph ho hs (fun g4 h4 v5 e5 => ?_)
      rw [e5]
      refine ih _ _ ⟨by omega, by omega, fun j hj => ?_⟩ (show (sz - (i + 1)).toNat < (sz - i).toNat by omega)
      have hn : zposN od v2 i.toNat = -9 := zposN_none _ (fun k hk e => by
        rw [e2] at e
        have := ho.2.2 _ _ (by omega) (by omega) e
        omega)
      rw [h4 j hj, h3 j hj]
      rw [zcnt_upd1 (f := fun k => zb (pi 1) k + if zposN od k i.toNat = -9 then 0 else zsee (zmean sz ph od se j (se 4)) (se 5) k * (1 - 2 * zb (pi 1) k)) (g := fun k => zb (pi 1) k + if zposN od k (i + 1).toNat = -9 then 0 else zsee (zmean sz ph od se j (se 4)) (se 5) k * (1 - 2 * zb (pi 1) k)) (v := v2.toNat) (n := 64) (by omega) (fun k hk hkv => ?_)]
      · rw [show ((v2.toNat : Nat) : Int) = v2 by omega, hn, if_pos rfl, zpos_s h1, ← e2, if_pos rfl, if_neg (show ¬ i = -9 by omega)]
        have ez : zsee (zmean sz ph od se j (se 4)) (se 5) v2.toNat = if se 5 ≤ zmean sz ph od se j (se 4) v2 then 1 else 0 := by
          unfold zsee
          rw [show ((v2.toNat : Nat) : Int) = v2 by omega]
        rw [ez]
        split <;> omega
      · rw [zpos_s h1, ← e2, if_neg (show ¬ v2 = (k : Int) by omega)]
  · rw [hg j (by omega)]
    refine zcnt_c 64 (fun k hk => ?_)
    show _ = zb (pi 1) k + if (-9 : Int) = -9 then _ else _
    rw [if_pos rfl]
    omega
/-- what sorting goes by -/
def zrank (ph : Nat → Int) (p1 : Int64) (rule before spot : Int) : Int := if rule = 0 then spot else if rule = 1 then (zb p1 spot.toNat * 15 + zway 0 spot) * 64 + spot else if rule = 2 then zabv (ph spot.toNat) 1 * 64 + spot else zway before spot * 64 + spot
theorem zrank_b {ph : Nat → Int} {p1 : Int64} {rule before spot : Int} (hsp : 0 ≤ spot ∧ spot < 64) (hb : 0 ≤ before ∧ before < 64) : 0 ≤ zrank ph p1 rule before spot ∧ zrank ph p1 rule before spot < 10000 := by
  have h1 := zb_01 p1 spot.toNat
  have h2 := zway_b (a := 0) (b := spot) ⟨by omega, by omega⟩ hsp
  have h3 := zway_b hb hsp
  have h4 := zabv_b (ph := ph spot.toNat) (bound := 1) (by decide)
  unfold zrank
  split
  · omega
  · split
    · omega
    · split <;> omega
theorem s_X1_rank {rule spot before : Int} {ph : Nat → Int} {pi : Nat → Int64} {Φ : Int → Prop} (hr : 0 ≤ rule ∧ rule ≤ 3) (hsp : 0 ≤ spot ∧ spot < 64) (hb : 0 ≤ before ∧ before < 64) (hph : zPh ph) (h : Φ (zrank ph (pi 1) rule before spot)) : wp_X1_rank rule spot before ph pi Φ := by
  unfold wp_X1_rank
  unfold zrank at h
  refine ⟨(qR_i (by omega) (by omega)), fun c => ?_, fun c => ?_, fun c => ⟨by decide, fun v2 e2 => ?_⟩, fun c => ⟨⟨by omega, by omega⟩, fun v5 e5 => ?_⟩⟩
  · rw [if_neg (by omega), if_neg (by omega), if_neg (by omega)] at h
    exact s_X4_way hb hsp h
  · rwa [if_pos c] at h
  · have e2 : v2 = pi 1 := e2
    rw [if_neg (by omega), if_pos c] at h
    subst e2
    exact s_X4_bit hsp (s_X4_way ⟨by omega, by omega⟩ hsp h)
  · rw [if_neg (by omega), if_neg (by omega), if_pos c] at h
    have := hph spot.toNat (by omega)
    rw [e5]
    exact s_X4_ticksAbove this ⟨by omega, by omega⟩ h
/-- the place of the first of least rank -/
def zarg (rk : Int → Int) (od : Nat → Int) : Nat → Int → Int → Int
  | 0, f, _ => f
  | n + 1, f, j => zarg rk od n (if rk (od j.toNat) < rk (od f.toNat) then j else f) (j + 1)
theorem zarg_b {rk : Int → Int} {od : Nat → Int} {lo hi : Int} : ∀ (n : Nat) (f j : Int), lo ≤ f → f < hi → lo ≤ j → j + n ≤ hi → lo ≤ zarg rk od n f j ∧ zarg rk od n f j < hi
  | 0, f, j, h1, h2, h3, h4 => ⟨h1, h2⟩
  | n + 1, f, j, h1, h2, h3, h4 => by
    rw [zarg]
    exact zarg_b n _ _ (by split <;> omega) (by split <;> omega) (by omega) (by omega)
/-- sorting by choosing the least again and again -/
def zsrt (rk : Int → Int → Int) (sz : Int) : Nat → Int → Int → (Nat → Int) → (Nat → Int)
  | 0, _, _, od => od
  | n + 1, b, i, od => zsrt rk sz n (zsw od i (zarg (rk b) od (sz - (i + 1)).toNat i (i + 1)) i.toNat) (i + 1) (zsw od i (zarg (rk b) od (sz - (i + 1)).toNat i (i + 1)))
theorem s_X1_arrange {rule sz : Int} {ph od se : Nat → Int} {pi : Nat → Int64} {Φ : Int → (Nat → Int) → Prop} (hr : qR rule) (hph : zPh ph) (ho : zOk sz od) (hs : zSe se) (h1 : ¬ (0 ≤ rule ∧ rule ≤ 3) → Φ (-1) od) (h2 : (0 ≤ rule ∧ rule ≤ 3) → zOk sz (zsrt (zrank ph (pi 1) rule) sz sz.toNat 0 0 od) → Φ (zlsz sz (zsrt (zrank ph (pi 1) rule) sz sz.toNat 0 0 od) se) (zsrt (zrank ph (pi 1) rule) sz sz.toNat 0 0 od)) : wp_X1_arrange rule sz ph od pi se Φ := by
  have ho0 := ho.1
  unfold wp_X1_arrange wp_X1_arrange_9
  refine ⟨hr, fun c => h1 (by omega), fun c => ⟨⟨hr, (qR_i (by omega) (by omega))⟩, fun c2 => ?_, fun c2 => h1 (by omega)⟩⟩
  have h2 := h2 ⟨by omega, by omega⟩
  generalize hfin : zsrt (zrank ph (pi 1) rule) sz sz.toNat 0 0 od = fin at h2
  refine zl3 (fun b i g => 0 ≤ i ∧ i ≤ sz ∧ (0 ≤ b ∧ b < 64) ∧ zOk sz g ∧ zsrt (zrank ph (pi 1) rule) sz (sz - i).toNat b i g = fin) (fun b i g => sz - i) (fun n b i g hi ih => ?_) _ _ _ ⟨by omega, by omega, ⟨by omega, by omega⟩, ho, by rw [show (sz - 0).toNat = sz.toNat by omega]; exact hfin⟩
  obtain ⟨i1, i2, i3, i4, i5⟩ := hi
  unfold wp_X1_arrange_15
  refine ⟨⟨(qR_i (by omega) (by omega)), (qR_i (by omega) (by omega))⟩, fun c3 => ?_, fun c3 v14 e14 => ?_⟩
  · rw [show (sz - i).toNat = 0 by omega, zsrt] at i5
    subst i5
    exact s_X1_litSize i4 hs (h2 i4)
  · rw [e14]
    rw [show (sz - i).toNat = (sz - (i + 1)).toNat + 1 by omega, zsrt] at i5
    have hF := zarg_b (rk := zrank ph (pi 1) rule b) (od := g) (lo := i) (hi := sz) (sz - (i + 1)).toNat i (i + 1) (by omega) (by omega) (by omega) (by omega)
    generalize hFd : zarg (zrank ph (pi 1) rule b) g (sz - (i + 1)).toNat i (i + 1) = F at i5 hF
    refine zl2 (fun f j => i + 1 ≤ j ∧ j ≤ sz ∧ (i ≤ f ∧ f < sz) ∧ zarg (zrank ph (pi 1) rule b) g (sz - j).toNat f j = F) (fun f j => sz - j) (fun m f j hj ih2 => ?_) _ _ ⟨by omega, by omega, ⟨by omega, by omega⟩, hFd⟩
    obtain ⟨j1, j2, j3, j4⟩ := hj
    unfold wp_X1_arrange_31
    refine ⟨⟨(qR_i (by omega) (by omega)), (qR_i (by omega) (by omega))⟩, fun c4 => s_X1_swap ⟨by omega, by omega⟩ ⟨by omega, by omega⟩ ⟨⟨by omega, by omega⟩, fun v5 e5 v6 e6 => ?_⟩, fun c4 => ⟨⟨by omega, by omega⟩, fun v7 e7 => ?_⟩⟩
    · rw [show (sz - j).toNat = 0 by omega, zarg] at j4
      subst j4
      have hok := zsw_ok i4 (i := i) (j := f) ⟨by omega, by omega⟩ ⟨by omega, by omega⟩
      rw [e6, e5]
      exact ih _ _ _ ⟨by omega, by omega, hok.2.1 _ (by omega), hok, i5⟩ (show (sz - (i + 1)).toNat < (sz - i).toNat by omega)
    · have hv := i4.2.1 j.toNat (by omega)
      have hw := i4.2.1 f.toNat (by omega)
      rw [show (sz - j).toNat = (sz - (j + 1)).toNat + 1 by omega, zarg] at j4
      rw [e7]
      refine s_X1_rank ⟨by omega, by omega⟩ hv i3 hph ⟨⟨by omega, by omega⟩, fun v9 e9 => ?_⟩
      rw [e9]
      refine s_X1_rank ⟨by omega, by omega⟩ hw i3 hph ?_
      have r1 := zrank_b (ph := ph) (p1 := pi 1) (rule := rule) hv i3
      have r2 := zrank_b (ph := ph) (p1 := pi 1) (rule := rule) hw i3
      unfold wp_X1_arrange_73
      refine ⟨⟨(qR_i (by omega) (by omega)), (qR_i (by omega) (by omega))⟩, fun c5 v1 e1 => ?_, fun c5 v1 e1 => ?_⟩
      · rw [if_neg (by omega)] at j4
        rw [e1]
        exact ih2 _ _ ⟨by omega, by omega, j3, j4⟩ (show (sz - (j + 1)).toNat < (sz - j).toNat by omega)
      · rw [if_pos (by omega)] at j4
        rw [e1]
        exact ih2 _ _ ⟨by omega, by omega, ⟨by omega, by omega⟩, j4⟩ (show (sz - (j + 1)).toNat < (sz - j).toNat by omega)
