/-! PURE 17: leastTravel on both sides -/
theorem zun_f {m j : Nat} (h : zun m j = true) : m.testBit j = false := by
  unfold zun at h
  cases hb : m.testBit j
  · rfl
  · rw [hb] at h
    exact absurd h (by decide)
theorem zun_t {m j : Nat} (h : m.testBit j = false) : zun m j = true := by
  unfold zun
  rw [h]
  rfl
theorem s_X5_leastTravel {t : Nat} {x th : Int} {ms mr : Nat → Int} {ph od : Nat → Int} {pi : Nat → Int64} {se : Nat → Int} {Φ : Int → Int → (Nat → Int) → Prop} (hG : zG ms (t : Int) ph od pi se) (hx : qR x) (h1 : x < -1 → ∀ a g, Φ (-1) a g) (h2 : (t : Int) ≤ x → ∀ a g, Φ (-9) a g) (h3 : x = -1 → ∀ a g, Φ (zT t (zAll od t) 0) a g) (h4 : 0 ≤ x → x < t → ∀ a g, Φ (zpth t (zAll od t) 0 x.toNat) a g) : wp_X5_leastTravel x th ms mr Φ := by
  have hG' := hG
  obtain ⟨hR, ho, hs, hph⟩ := hG'
  have hl := zLst_of ho
  have h12 := hl.1
  have hp : 2 ^ t ≤ 4096 := Nat.pow_le_pow_right (n := 2) (by decide) h12
  have hon : ∀ m j : Nat, m < 2 ^ t → j < t → zon m j < 2 ^ t := fun m j => zon_lt
  have hp1 : 0 < 2 ^ t := Nat.two_pow_pos t
  unfold wp_X5_leastTravel
  refine ⟨⟨hx, by decide⟩, fun c1 => ⟨by decide, fun v29 e29 => ?_⟩, fun c1 => h1 (by omega) _ _⟩
  have e29 : v29 = (t : Int) := e29.trans hR.2.1
  refine ⟨⟨hx, (qR_i (by omega) (by omega))⟩, fun c2 => s_X5_reckonWays hG (fun g32 hg => ?_), fun c2 => h2 (by omega) _ _⟩
  have hun0 : ∀ k : Nat, zun 0 k = true := fun k => zun_t (Nat.zero_testBit k)
  have hA0 : zmem od (zun 0) t = zAll od t := zmem_c (fun k _ => hun0 k)
  have hc0 : zcard (zun 0) t = t := zcard_all t (fun k _ => hun0 k)
  generalize zAll od t = A at h3 h4 hA0
  generalize hP : (2 : Nat) ^ t = P at *
  refine zl4 (fun (sm pv mk ps : Int) => (0 ≤ pv ∧ pv < 64) ∧ ∃ m p : Nat, mk = m ∧ m < P ∧ ps = p ∧ p ≤ t ∧ (x = -1 ∨ (p : Int) ≤ x) ∧ zcard (zun m) t + p = t ∧ (p = 0 → sm = 0 ∧ zT (zcard (zun m) t) (zmem od (zun m) t) pv = zT t A 0) ∧ (p ≠ 0 → sm = zT t A 0) ∧ ∀ q : Nat, zpth t A 0 (p + q) = zpth (zcard (zun m) t) (zmem od (zun m) t) pv q) (fun sm pv mk ps => (t : Int) - ps) (fun n sm pv mk ps hi ih => ?_) _ _ _ _ ⟨⟨by omega, by omega⟩, 0, 0, rfl, by omega, rfl, by omega, by omega, by omega, fun _ => ⟨rfl, by rw [hA0, hc0]⟩, fun z => absurd rfl z, fun q => by rw [hA0, hc0, Nat.zero_add]⟩
  obtain ⟨i1, m, p, rfl, i3, rfl, i5, i6, i7, i8, i9, i10⟩ := hi
  unfold wp_X5_leastTravel_40
  refine ⟨by decide, fun v26 e26 => ?_⟩
  have e26 : v26 = (t : Int) := e26.trans hR.2.1
  refine ⟨⟨(qR_i (by omega) (by omega)), (qR_i (by omega) (by omega))⟩, fun c => ?_, fun c => ?_⟩
  · have hxm : x = -1 := by omega
    have hsm : sm = zT t A 0 := by
      by_cases z : p = 0
      · have q := i8 z
        rw [show zcard (zun m) t = 0 by omega] at q
        have q2 : 0 = zT t A 0 := q.2
        omega
      · exact i9 z
    rw [hsm]
    exact h3 hxm _ _
  · obtain ⟨nn, hn⟩ : ∃ nn : Nat, nn + 1 = zcard (zun m) t := ⟨zcard (zun m) t - 1, by omega⟩
    have hcl : ∀ j : Nat, j < t → m.testBit j = false → 0 ≤ zcl od t (zun m) nn pv j ∧ zcl od t (zun m) nn pv j ≤ 1000 := fun j hj _ => zcl_b hl hj (by omega) i1
    refine zl3 (fun (bs ls i : Int) => 0 ≤ i ∧ i ≤ (t : Int) ∧ ((bs = -9 ∧ ls = 100000 ∧ ∀ j : Nat, (j : Int) < i → m.testBit j = true) ∨ ∃ j0 : Nat, bs = j0 ∧ (j0 : Int) < i ∧ m.testBit j0 = false ∧ ls = zcl od t (zun m) nn pv j0 ∧ ∀ j : Nat, (j : Int) < i → m.testBit j = false → ls ≤ zcl od t (zun m) nn pv j ∧ (zcl od t (zun m) nn pv j = ls → od j0 ≤ od j))) (fun bs ls i => (t : Int) - i) (fun n2 bs ls i hk ih2 => ?_) _ _ _ ⟨by omega, by omega, Or.inl ⟨rfl, rfl, fun j hj => absurd hj (by omega)⟩⟩
    obtain ⟨k1, k2, k3⟩ := hk
    obtain ⟨i, rfl⟩ := Int.eq_ofNat_of_zero_le k1
    unfold wp_X5_leastTravel_63
    refine ⟨by decide, fun v15 e15 => ?_⟩
    have e15 : v15 = (t : Int) := e15.trans hR.2.1
    refine ⟨⟨(qR_i (by omega) (by omega)), (qR_i (by omega) (by omega))⟩, fun c2 => ?_, fun c2 v18 e18 v19 e19 => ?_⟩
    · -- the best is found
      obtain ⟨j0, a1, a2, a3, a4, a5⟩ : ∃ j0 : Nat, bs = j0 ∧ (j0 : Int) < (i : Int) ∧ m.testBit j0 = false ∧ ls = zcl od t (zun m) nn pv j0 ∧ ∀ j : Nat, (j : Int) < (i : Int) → m.testBit j = false → ls ≤ zcl od t (zun m) nn pv j ∧ (zcl od t (zun m) nn pv j = ls → od j0 ≤ od j) := by
        rcases k3 with ⟨-, -, q⟩ | q
        · obtain ⟨j, j1, j2⟩ := zcard_ex (f := zun m) t (by omega)
          have := q j (by omega)
          rw [zun_f j2] at this
          exact absurd this (by decide)
        · exact q
      have hj0 : j0 < t := by omega
      have hu := zun_t a3
      have hnx := znx_l hl (inn := zun m) (n := nn) (f := pv) hj0 hu (fun j hj hj2 => by
        have := a5 j (by omega) (zun_f hj2)
        rw [← a4]
        exact this)
      have hv := hl.2.1 j0 hj0
      have hoff := zcard_off (f := zun m) t hj0 hu
      have hmem : zdel (zmem od (zun m) t) (od j0) = zmem od (zun (zon m j0)) t := by rw [zmem_del hl.2.2 hj0, zun_on]
      have hcard : zcard (zun (zon m j0)) t = nn := by
        rw [zun_on]
        omega
      rw [← hn] at i8 i10
      have i100 : zpth t A 0 (p + 0) = znx nn (zmem od (zun m) t) pv := i10 0
      have cont : ∀ w : Int, w = zT t A 0 → wp_X5_leastTravel_210 Φ (wp_X5_leastTravel_40 Φ x 0 ms g32 n) x (m : Int) (p : Int) bs w 0 ms g32 := by
        intro w ew
        unfold wp_X5_leastTravel_210
        rw [a1]
        refine s_X5_spotAt hR ⟨by omega, by omega⟩ (fun v2 e2 v3 e3 => ?_)
        rw [e2, zk_or (by omega) (by omega)] at e3
        have e3 : v3 = ((zon m j0 : Nat) : Int) := e3
        refine ⟨⟨(qR_i (by omega) (by omega)), hx⟩, fun c3 v5 e5 => ?_, fun c3 => ?_⟩
        · rw [e5, e3]
          refine ih _ _ _ _ ⟨hv, zon m j0, p + 1, rfl, hon m j0 i3 hj0, by omega, by omega, by omega, by omega, fun z => absurd z (by omega), fun _ => ew, fun q => ?_⟩ (show ((t : Int) - ((p : Int) + 1)).toNat < ((t : Int) - (p : Int)).toNat by omega)
          rw [show p + 1 + q = p + (q + 1) by omega, i10 (q + 1), zpth_s, hnx.1, hmem, hcard]
          rfl
        · have hxp : x = (p : Int) := by omega
          have q := h4 (by omega) (by omega) 0 g32
          rw [show x.toNat = p + 0 by omega, i100, hnx.1] at q
          exact q
      refine ⟨(qR_i (by omega) (by omega)), fun c3 => cont _ (i9 (by omega)), fun c3 => cont _ ?_⟩
      have q := (i8 (by omega)).2
      rw [hnx.2] at q
      omega
    · have hi : i < t := by omega
      rw [e18, zk_bit (by omega) (by omega)] at e19
      have step : ∀ b' l' : Int, ((b' = -9 ∧ l' = 100000 ∧ ∀ j : Nat, (j : Int) < (i : Int) + 1 → m.testBit j = true) ∨ ∃ j0 : Nat, b' = j0 ∧ (j0 : Int) < (i : Int) + 1 ∧ m.testBit j0 = false ∧ l' = zcl od t (zun m) nn pv j0 ∧ ∀ j : Nat, (j : Int) < (i : Int) + 1 → m.testBit j = false → l' ≤ zcl od t (zun m) nn pv j ∧ (zcl od t (zun m) nn pv j = l' → od j0 ≤ od j)) → wp_X5_leastTravel_191 Φ (wp_X5_leastTravel_40 Φ x 0 ms g32 n) (wp_X5_leastTravel_63 Φ (wp_X5_leastTravel_40 Φ x 0 ms g32 n) x sm pv (m : Int) (p : Int) 0 ms g32 n2) x sm pv (m : Int) (p : Int) b' (i : Int) l' 0 ms g32 := by
        intro b' l' hb
        unfold wp_X5_leastTravel_191
        intro v6 e6
        rw [e6]
        exact ih2 _ _ _ ⟨by omega, by omega, hb⟩ (show ((t : Int) - ((i : Int) + 1)).toNat < ((t : Int) - (i : Int)).toNat by omega)
      -- keep what there is
      have keep : ∀ w : Int, ((bs = -9 ∧ ls = 100000 ∧ ∀ j : Nat, (j : Int) < (i : Int) + 1 → m.testBit j = true) ∨ ∃ j0 : Nat, bs = j0 ∧ (j0 : Int) < (i : Int) + 1 ∧ m.testBit j0 = false ∧ ls = zcl od t (zun m) nn pv j0 ∧ ∀ j : Nat, (j : Int) < (i : Int) + 1 → m.testBit j = false → ls ≤ zcl od t (zun m) nn pv j ∧ (zcl od t (zun m) nn pv j = ls → od j0 ≤ od j)) → wp_X5_leastTravel_162 Φ (wp_X5_leastTravel_40 Φ x 0 ms g32 n) (wp_X5_leastTravel_63 Φ (wp_X5_leastTravel_40 Φ x 0 ms g32 n) x sm pv (m : Int) (p : Int) 0 ms g32 n2) x sm pv (m : Int) (p : Int) bs ls (i : Int) w 0 ms g32 := by
        intro w hb
        unfold wp_X5_leastTravel_162 wp_X5_leastTravel_163
        refine ⟨(qR_i (by omega) (by omega)), fun _ => ?_, fun z => absurd rfl z⟩
        unfold wp_X5_leastTravel_177
        exact ⟨(qR_i (by omega) (by omega)), fun _ => step _ _ hb, fun z => absurd rfl z⟩
      have take : ∀ w : Int, ((i : Int) = -9 ∧ w = 100000 ∧ ∀ j : Nat, (j : Int) < (i : Int) + 1 → m.testBit j = true) ∨ (∃ j0 : Nat, (i : Int) = j0 ∧ (j0 : Int) < (i : Int) + 1 ∧ m.testBit j0 = false ∧ w = zcl od t (zun m) nn pv j0 ∧ ∀ j : Nat, (j : Int) < (i : Int) + 1 → m.testBit j = false → w ≤ zcl od t (zun m) nn pv j ∧ (zcl od t (zun m) nn pv j = w → od j0 ≤ od j)) → wp_X5_leastTravel_158 Φ (wp_X5_leastTravel_40 Φ x 0 ms g32 n) (wp_X5_leastTravel_63 Φ (wp_X5_leastTravel_40 Φ x 0 ms g32 n) x sm pv (m : Int) (p : Int) 0 ms g32 n2) x sm pv (m : Int) (p : Int) bs ls (i : Int) w 0 ms g32 := by
        intro w hb
        unfold wp_X5_leastTravel_158 wp_X5_leastTravel_163
        refine ⟨(qR_i (by omega) (by omega)), fun z => absurd z (by decide), fun _ => ?_⟩
        unfold wp_X5_leastTravel_177
        exact ⟨(qR_i (by omega) (by omega)), fun z => absurd z (by decide), fun _ => step _ _ hb⟩
      have hls : 0 ≤ ls ∧ ls ≤ 100000 := by
        rcases k3 with ⟨-, q, -⟩ | ⟨j0, q1, q2, q3, q4, -⟩
        · omega
        · have := hcl j0 (by omega) q3
          omega
      by_cases cb : m.testBit i = true
      · rw [if_pos cb] at e19
        refine ⟨⟨(qR_i (by omega) (by omega)), (qR_i (by omega) (by omega))⟩, fun z => absurd e19 z, fun _ => ?_⟩
        have nxt : (bs = -9 ∧ ls = 100000 ∧ ∀ j : Nat, (j : Int) < (i : Int) + 1 → m.testBit j = true) ∨ ∃ j0 : Nat, bs = j0 ∧ (j0 : Int) < (i : Int) + 1 ∧ m.testBit j0 = false ∧ ls = zcl od t (zun m) nn pv j0 ∧ ∀ j : Nat, (j : Int) < (i : Int) + 1 → m.testBit j = false → ls ≤ zcl od t (zun m) nn pv j ∧ (zcl od t (zun m) nn pv j = ls → od j0 ≤ od j) := by
          rcases k3 with ⟨q1, q2, q3⟩ | ⟨j0, q1, q2, q3, q4, q5⟩
          · refine Or.inl ⟨q1, q2, fun j hj => ?_⟩
            by_cases z : j = i
            · rw [z]; exact cb
            · exact q3 j (by omega)
          · refine Or.inr ⟨j0, q1, by omega, q3, q4, fun j hj hb => ?_⟩
            by_cases z : j = i
            · rw [z, cb] at hb
              exact absurd hb (by decide)
            · exact q5 j (by omega) hb
        unfold wp_X5_leastTravel_120
        refine ⟨⟨(qR_i (by omega) (by omega)), (qR_i (by omega) (by omega))⟩, fun c4 => absurd c4 (by omega), fun c4 => ⟨⟨(qR_i (by omega) (by omega)), (qR_i (by omega) (by omega))⟩, fun c5 => keep _ nxt, fun c5 => ⟨⟨(qR_i (by omega) (by omega)), (qR_i (by omega) (by omega))⟩, fun c6 => keep _ nxt, fun c6 => absurd (by omega) c6⟩⟩⟩
      · rw [if_neg cb] at e19
        have cf := Bool.eq_false_iff.mpr cb
        refine ⟨⟨(qR_i (by omega) (by omega)), (qR_i (by omega) (by omega))⟩, fun _ => s_X5_spotAt hR ⟨by omega, by omega⟩ (s_X5_way i1 (hl.2.1 i hi) (fun v23 e23 v24 e24 => ?_)), fun z => absurd (show ¬ v19 = 1 by omega) z⟩
        rw [e23, zk_or (by omega) (by omega)] at e24
        have e24 : v24 = ((zon m i : Nat) : Int) := e24
        have hon1 := hon m i i3 hi
        have hgt := zon_gt cf
        refine ⟨⟨by omega, by omega⟩, fun v25 e25 => ?_⟩
        rw [e24, show ((12 : Int) * ((zon m i : Nat) : Int) + (i : Int)).toNat = 12 * zon m i + i by omega, hg _ (by omega) hon1 i hi] at e25
        have ecl := zmr_cl (od := od) (f := pv) hi cf hn
        have hci := hcl i hi cf
        have e26' : zway pv (od (i : Int).toNat) = zway pv (od i) := rfl
        rw [e26', e25, ecl]
        unfold wp_X5_leastTravel_120
        refine ⟨⟨(qR_i (by omega) (by omega)), (qR_i (by omega) (by omega))⟩, fun c4 => take _ (Or.inr ⟨i, rfl, by omega, cf, rfl, fun j hj hb => ?_⟩), fun c4 => ⟨⟨(qR_i (by omega) (by omega)), (qR_i (by omega) (by omega))⟩, fun c5 => keep _ ?_, fun c5 => ⟨⟨(qR_i (by omega) (by omega)), (qR_i (by omega) (by omega))⟩, fun c6 => absurd c6 (by omega), fun c6 => ?_⟩⟩⟩
        · by_cases z : j = i
          · subst z
            exact ⟨Int.le_refl _, fun _ => Int.le_refl _⟩
          · rcases k3 with ⟨q1, q2, q3⟩ | ⟨j0, q1, q2, q3, q4, q5⟩
            · rw [q3 j (by omega)] at hb
              exact absurd hb (by decide)
            · have := q5 j (by omega) hb
              exact ⟨by omega, fun y => by omega⟩
        · rcases k3 with ⟨q1, q2, q3⟩ | ⟨j0, q1, q2, q3, q4, q5⟩
          · omega
          · refine Or.inr ⟨j0, q1, by omega, q3, q4, fun j hj hb => ?_⟩
            by_cases z : j = i
            · subst z
              exact ⟨by omega, fun y => by omega⟩
            · exact q5 j (by omega) hb
        · rcases k3 with ⟨q1, q2, q3⟩ | ⟨j0, q1, q2, q3, q4, q5⟩
          · omega
          · have hvi := hl.2.1 i hi
            have hv0 := hl.2.1 j0 (by omega)
            refine s_X5_spotAt hR ⟨by omega, by omega⟩ ?_
            rw [q1]
            refine s_X5_spotAt hR ⟨by omega, by omega⟩ ?_
            have e1 : od (i : Int).toNat = od i := rfl
            have e2 : od (j0 : Int).toNat = od j0 := rfl
            rw [e1, e2]
            rw [q1] at keep take
            refine ⟨⟨(qR_i (by omega) (by omega)), (qR_i (by omega) (by omega))⟩, fun c7 => keep _ (Or.inr ⟨j0, rfl, by omega, q3, q4, fun j hj hb => ?_⟩), fun c7 => take _ (Or.inr ⟨i, rfl, by omega, cf, rfl, fun j hj hb => ?_⟩)⟩
            · by_cases z : j = i
              · subst z
                exact ⟨by omega, fun _ => c7⟩
              · exact q5 j (by omega) hb
            · by_cases z : j = i
              · subst z
                exact ⟨Int.le_refl _, fun _ => Int.le_refl _⟩
              · have := q5 j (by omega) hb
                exact ⟨by omega, fun y => by
                  have := this.2 (by omega)
                  omega⟩
/-- the spots of the order are the spots of the set -/
theorem zsp_od {t : Nat} {od : Nat → Int} (ho : zOk (t : Int) od) {r : Int64} (hr : ∀ k : Nat, k < 64 → zb r k = if zpos (t : Int) od k = -9 then 0 else 1) : zsp r = zAll od t ∧ zcnt (zb r) 64 = t := by
  constructor
  · apply zset_ext
    intro k
    unfold zsp zAll
    rw [zmem_iff, decide_eq_true_eq]
    constructor
    · rintro ⟨k1, k2, k3⟩
      rw [hr _ (by omega), show ((k.toNat : Nat) : Int) = k by omega] at k3
      rcases zpos_cases (t : Int) od k with ⟨q, -⟩ | ⟨j, j1, j2, -⟩
      · rw [if_pos q] at k3
        omega
      · exact ⟨j, by omega, rfl, j2⟩
    · rintro ⟨j, j1, -, j3⟩
      have hv := ho.2.1 j (by omega)
      refine ⟨by omega, by omega, ?_⟩
      rw [hr _ (by omega), show ((k.toNat : Nat) : Int) = k by omega, zpos_some ho (k := j) (by omega) j3, if_neg (by omega)]
  · have hc := zcnt_ord ho t (by omega)
    rw [← hc]
    refine zcnt_c 64 (fun k hk => ?_)
    rw [hr k hk]
    rfl
theorem s_X4_leastTravel {t : Nat} {x tz ts : Int} {pn : Int64} {sp rs so od : Nat → Int} {Φ : Int → Int64 → Int → Int → (Nat → Int) → (Nat → Int) → (Nat → Int) → Prop} (ho : zOk (t : Int) od) (hP : zPl pn tz ts so) (hx : qR x) (h1 : x < -1 → Φ (-1) pn tz ts sp rs so) (h2 : -1 ≤ x → ∀ (pn' : Int64) (tz' ts' : Int) (sp' rs' so' : Nat → Int), zPl pn' tz' ts' so' → Φ (if x = -1 then zT t (zAll od t) 0 else if x < t then zpth t (zAll od t) 0 x.toNat else -9) pn' tz' ts' sp' rs' so') : wp_X4_leastTravel x pn tz ts sp rs so (t : Int) od Φ := by
  have hl := zLst_of ho
  have h12 := hl.1
  unfold wp_X4_leastTravel wp_X4_leastTravel_46
  refine ⟨⟨hx, by decide⟩, fun c => s_X1_spotsOfOrder ho (fun r hr => ?_), fun c => h1 (by omega)⟩
  have hs := zsp_od ho hr
  refine s_X3_plan (by rw [hs.2]; omega) hP (fun tz' ts' sp' rs' so' hP' => ⟨hx, fun c2 => ?_, fun c2 => ?_⟩)
  · obtain ⟨t', p1, p2, p3, p4, p5⟩ := id hP'
    have ht : t' = t := by
      rw [hs.2] at p3
      omega
    subst ht
    have q := h2 c _ _ _ sp' rs' so' hP'
    rw [if_neg (by omega)] at q
    unfold wp_X3_stop wp_X3_stop_21 wp_X3_stop_23
    rw [p1] at q ⊢
    refine ⟨hx, fun c3 => absurd c3 (by omega), fun c3 => ⟨⟨hx, (qR_i (by omega) (by omega))⟩, fun c4 => ?_, fun c4 => ⟨⟨by omega, by omega⟩, fun v3 e3 => ?_⟩⟩⟩
    · rwa [if_neg (by omega)] at q
    · rw [if_pos (by omega)] at q
      rw [e3, p5 _ (by omega), hs.1]
      exact q
  · obtain ⟨t', p1, p2, p3, p4, p5⟩ := id hP'
    have ht : t' = t := by
      rw [hs.2] at p3
      omega
    subst ht
    have q := h2 c _ _ _ sp' rs' so' hP'
    rw [if_pos (by omega), ← hs.1, ← p4] at q
    unfold wp_X3_sumOfWays
    exact q
