/-! PURE 16: the model's least travel -/
theorem zLst_of {t : Nat} {od : Nat → Int} (ho : zOk (t : Int) od) : zLst od t := ⟨by have := ho.1; omega, fun j hj => ho.2.1 j (by omega), fun a b ha hb e => ho.2.2 a b (by omega) (by omega) e⟩
theorem zmr_b {od : Nat → Int} {t m j : Nat} (hl : zLst od t) (hj : j < t) : 0 ≤ zmr od t m j ∧ zmr od t m j ≤ 1000 := by
  have h1 := zT_b (S := zmem od (zun m) t) (zcard (zun m) t) (zmem od (zun m) t) (od j) (zmem_v hl) (hl.2.1 j hj)
  have h2 := zcard_le (zun m) t
  have h3 := hl.1
  unfold zmr
  omega
theorem s_X5_reckonWays {t : Nat} {ms mr : Nat → Int} {ph od : Nat → Int} {pi : Nat → Int64} {se : Nat → Int} {Φ : (Nat → Int) → Prop} (hG : zG ms (t : Int) ph od pi se) (h : ∀ g : Nat → Int, (∀ m : Nat, 0 < m → m < 2 ^ t → ∀ j : Nat, j < t → g (12 * m + j) = zmr od t m j) → Φ g) : wp_X5_reckonWays ms mr Φ := by
  obtain ⟨hR, ho, hs, hph⟩ := hG
  have hl := zLst_of ho
  have h12 := hl.1
  have hp : 2 ^ t ≤ 4096 := Nat.pow_le_pow_right (n := 2) (by decide) h12
  have hp1 : 0 < 2 ^ t := Nat.two_pow_pos t
  have hfl : ∀ m : Nat, m < 2 ^ t → (∀ j : Nat, j < t → m.testBit j = true) → m = 2 ^ t - 1 := fun m hm => zfull hm
  have hon : ∀ m j : Nat, m < 2 ^ t → j < t → zon m j < 2 ^ t := fun m j => zon_lt
  have hfull : ∀ k : Nat, k < t → (2 ^ t - 1).testBit k = true := fun k hk => by
    rw [Nat.testBit_two_pow_sub_one]
    exact decide_eq_true hk
  unfold wp_X5_reckonWays
  refine ⟨by decide, fun v21 e21 v22 e22 v23 e23 => ?_⟩
  have e21 : v21 = (t : Int) := e21.trans hR.2.1
  rw [e21, zk_pow t (by omega)] at e22
  generalize hP : (2 : Nat) ^ t = P at *
  refine zl2 (fun (x : Int) (g : Nat → Int) => 0 ≤ x ∧ x < P ∧ ∀ m : Nat, x < (m : Int) → m < P → ∀ j : Nat, j < t → g (12 * m + j) = zmr od t m j) (fun x g => x) (fun n x g hi ih => ?_) _ _ ⟨by omega, by omega, fun m h1 h2 => absurd h2 (by omega)⟩
  obtain ⟨i1, i2, i3⟩ := hi
  obtain ⟨m, rfl⟩ := Int.eq_ofNat_of_zero_le i1
  unfold wp_X5_reckonWays_14
  refine ⟨(qR_i (by omega) (by omega)), fun c => h g (fun m' h1 h2 => i3 m' (by omega) h2), fun c => ?_⟩
  refine zl2 (fun (y : Int) (g' : Nat → Int) => 0 ≤ y ∧ y ≤ (t : Int) ∧ (∀ m' : Nat, m < m' → m' < P → ∀ j : Nat, j < t → g' (12 * m' + j) = zmr od t m' j) ∧ ∀ j : Nat, (j : Int) < y → g' (12 * m + j) = zmr od t m j) (fun y g' => (t : Int) - y) (fun n2 y g' hj ih2 => ?_) _ _ ⟨by omega, by omega, fun m' h1 h2 => i3 m' (by omega) h2, fun j hj => absurd hj (by omega)⟩
  obtain ⟨j1, j2, j3, j4⟩ := hj
  obtain ⟨x3, rfl⟩ := Int.eq_ofNat_of_zero_le j1
  unfold wp_X5_reckonWays_20
  refine ⟨by decide, fun v16 e16 => ?_⟩
  have e16 : v16 = (t : Int) := e16.trans hR.2.1
  refine ⟨⟨(qR_i (by omega) (by omega)), (qR_i (by omega) (by omega))⟩, fun c2 v18 e18 => ?_, fun c2 => ?_⟩
  · rw [e18]
    refine ih _ _ ⟨by omega, by omega, fun m' h1 h2 j hj => ?_⟩ (show ((m : Int) + -1).toNat < (m : Int).toNat by omega)
    by_cases z : m' = m
    · rw [z]
      exact j4 j (by omega)
    · exact j3 m' (by omega) h2 j hj
  · have hx3 : x3 < t := by omega
    have hv3 := hl.2.1 x3 hx3
    -- the running least
    have inner : ∀ a : Int, ((m = P - 1 ∧ a = 0) ∨ (m ≠ P - 1 ∧ a = 100000)) → wp_X5_reckonWays_44 Φ (wp_X5_reckonWays_14 Φ v22 ms n) (wp_X5_reckonWays_20 Φ (wp_X5_reckonWays_14 Φ v22 ms n) v22 (m : Int) ms n2) v22 (m : Int) (x3 : Int) a ms g' := by
      intro a ha
      unfold wp_X5_reckonWays_44
      refine zl2 (fun (x4 i : Int) => 0 ≤ i ∧ i ≤ (t : Int) ∧ ((m = P - 1 ∧ x4 = 0) ∨ (m ≠ P - 1 ∧ ((x4 = 100000 ∧ ∀ j : Nat, (j : Int) < i → m.testBit j = true) ∨ ∃ j0 : Nat, (j0 : Int) < i ∧ m.testBit j0 = false ∧ x4 = zway (od x3) (od j0) + zmr od t (zon m j0) j0 ∧ ∀ j : Nat, (j : Int) < i → m.testBit j = false → x4 ≤ zway (od x3) (od j) + zmr od t (zon m j) j)))) (fun x4 i => (t : Int) - i) (fun n3 x4 i hk ih3 => ?_) _ _ ⟨by omega, by omega, ?_⟩
      · obtain ⟨k1, k2, k3⟩ := hk
        obtain ⟨i, rfl⟩ := Int.eq_ofNat_of_zero_le k1
        have hx4 : 0 ≤ x4 ∧ x4 ≤ 100000 := by
          rcases k3 with ⟨-, q⟩ | ⟨-, ⟨q, -⟩ | ⟨j0, q1, q2, q3, -⟩⟩
          · omega
          · omega
          · have := zmr_b (m := zon m j0) hl (show j0 < t by omega)
            have := zway_b hv3 (hl.2.1 j0 (by omega))
            omega
        unfold wp_X5_reckonWays_49
        refine ⟨by decide, fun v3 e3 => ?_⟩
        have e3 : v3 = (t : Int) := e3.trans hR.2.1
        refine ⟨⟨(qR_i (by omega) (by omega)), (qR_i (by omega) (by omega))⟩, fun c3 => ⟨⟨by omega, by omega⟩, fun g5 e5 v6 e6 => ?_⟩, fun c3 v7 e7 v8 e8 => ?_⟩
        · rw [e6]
          rw [show ((12 : Int) * (m : Int) + (x3 : Int)).toNat = 12 * m + x3 by omega] at e5
          have hval : x4 = zmr od t m x3 := by
            rcases k3 with ⟨q1, q2⟩ | ⟨q1, ⟨q2, q3⟩ | ⟨j0, q2, q3, q4, q5⟩⟩
            · have hz : ∀ k : Nat, k < t → zun m k = false := fun k hk => by
                unfold zun
                rw [q1, hfull k hk]
                rfl
              unfold zmr
              rw [zcard_zero t hz, q2]
              rfl
            · exact absurd (hfl m (by omega) (fun j hj => q3 j (by omega))) q1
            · have hu : zun m j0 = true := by
                unfold zun
                rw [q3]
                rfl
              have hpos := zcard_pos (f := zun m) t (show j0 < t by omega) hu
              obtain ⟨nn, hn⟩ : ∃ nn : Nat, nn + 1 = zcard (zun m) t := ⟨zcard (zun m) t - 1, by omega⟩
              unfold zmr
              rw [← hn]
              refine (zT_min hl ⟨j0, by omega, hu, ?_⟩ (fun j hj hj2 => ?_)).symm
              · rw [q4, zmr_cl (by omega) q3 hn]
              · have hb : m.testBit j = false := by
                  unfold zun at hj2
                  cases hb : m.testBit j
                  · rfl
                  · rw [hb] at hj2
                    exact absurd hj2 (by decide)
                rw [← zmr_cl hj hb hn]
                exact q5 j (by omega) hb
          refine ih2 _ _ ⟨by omega, by omega, fun m' h1 h2 j hj => ?_, fun j hj => ?_⟩ (show ((t : Int) - ((x3 : Int) + 1)).toNat < ((t : Int) - (x3 : Int)).toNat by omega)
          · rw [e5, qU_a, if_neg (by omega)]
            exact j3 m' h1 h2 j hj
          · rw [e5, qU_a]
            by_cases z : j = x3
            · subst z
              rw [if_pos rfl]
              exact hval
            · rw [if_neg (by omega)]
              exact j4 j (by omega)
        · have hi : i < t := by omega
          rw [e7, zk_bit (by omega) (by omega)] at e8
          have step : ∀ w : Int, ((m = P - 1 ∧ w = 0) ∨ (m ≠ P - 1 ∧ ((w = 100000 ∧ ∀ j : Nat, (j : Int) < (i : Int) + 1 → m.testBit j = true) ∨ ∃ j0 : Nat, (j0 : Int) < (i : Int) + 1 ∧ m.testBit j0 = false ∧ w = zway (od x3) (od j0) + zmr od t (zon m j0) j0 ∧ ∀ j : Nat, (j : Int) < (i : Int) + 1 → m.testBit j = false → w ≤ zway (od x3) (od j) + zmr od t (zon m j) j))) → wp_X5_reckonWays_124 Φ (wp_X5_reckonWays_14 Φ v22 ms n) (wp_X5_reckonWays_20 Φ (wp_X5_reckonWays_14 Φ v22 ms n) v22 (m : Int) ms n2) (wp_X5_reckonWays_49 Φ (wp_X5_reckonWays_14 Φ v22 ms n) (wp_X5_reckonWays_20 Φ (wp_X5_reckonWays_14 Φ v22 ms n) v22 (m : Int) ms n2) v22 (m : Int) (x3 : Int) ms g' n3) v22 (m : Int) (x3 : Int) (i : Int) w ms g' := by
            intro w hw
            unfold wp_X5_reckonWays_124
            intro v1 e1
            rw [e1]
            exact ih3 _ _ ⟨by omega, by omega, hw⟩ (show ((t : Int) - ((i : Int) + 1)).toNat < ((t : Int) - (i : Int)).toNat by omega)
          by_cases cb : m.testBit i = true
          · rw [if_pos cb] at e8
            have nxt : (m = P - 1 ∧ x4 = 0) ∨ (m ≠ P - 1 ∧ ((x4 = 100000 ∧ ∀ j : Nat, (j : Int) < (i : Int) + 1 → m.testBit j = true) ∨ ∃ j0 : Nat, (j0 : Int) < (i : Int) + 1 ∧ m.testBit j0 = false ∧ x4 = zway (od x3) (od j0) + zmr od t (zon m j0) j0 ∧ ∀ j : Nat, (j : Int) < (i : Int) + 1 → m.testBit j = false → x4 ≤ zway (od x3) (od j) + zmr od t (zon m j) j)) := by
              rcases k3 with q | ⟨q1, ⟨q2, q3⟩ | ⟨j0, q2, q3, q4, q5⟩⟩
              · exact Or.inl q
              · refine Or.inr ⟨q1, Or.inl ⟨q2, fun j hj => ?_⟩⟩
                by_cases z : j = i
                · rw [z]; exact cb
                · exact q3 j (by omega)
              · refine Or.inr ⟨q1, Or.inr ⟨j0, by omega, q3, q4, fun j hj hb => ?_⟩⟩
                by_cases z : j = i
                · rw [z, cb] at hb
                  exact absurd hb (by decide)
                · exact q5 j (by omega) hb
            refine ⟨⟨(qR_i (by omega) (by omega)), (qR_i (by omega) (by omega))⟩, fun z => absurd e8 z, fun _ => ?_⟩
            unfold wp_X5_reckonWays_108
            refine ⟨⟨(qR_i (by omega) (by omega)), (qR_i (by omega) (by omega))⟩, fun c4 => step _ nxt, fun c4 => absurd (show x4 ≤ 100000 by omega) c4⟩
          · rw [if_neg cb] at e8
            have cf := Bool.eq_false_iff.mpr cb
            have hne : m ≠ P - 1 := fun z => by
              rw [z, hfull i hi] at cf
              exact absurd cf (by decide)
            refine ⟨⟨(qR_i (by omega) (by omega)), (qR_i (by omega) (by omega))⟩, fun _ => s_X5_spotAt hR ⟨by omega, by omega⟩ (s_X5_spotAt hR ⟨by omega, by omega⟩ (s_X5_way hv3 (hl.2.1 i hi) (fun v13 e13 v14 e14 => ?_))), fun z => absurd (show ¬ v8 = 1 by omega) z⟩
            rw [e13, zk_or (by omega) (by omega)] at e14
            have e14 : v14 = ((zon m i : Nat) : Int) := e14
            have hon1 := hon m i (by omega) hi
            have hgt := zon_gt cf
            refine ⟨⟨by omega, by omega⟩, fun v15 e15 => ?_⟩
            rw [e14, show ((12 : Int) * ((zon m i : Nat) : Int) + (i : Int)).toNat = 12 * zon m i + i by omega, j3 _ hgt hon1 i hi] at e15
            have hmb := zmr_b (m := zon m i) hl hi
            have hwb := zway_b hv3 (hl.2.1 i hi)
            have e16' : zway (od (x3 : Int).toNat) (od (i : Int).toNat) = zway (od x3) (od i) := rfl
            rw [e16', e15]
            unfold wp_X5_reckonWays_108
            refine ⟨⟨(qR_i (by omega) (by omega)), (qR_i (by omega) (by omega))⟩, fun c4 => step _ (Or.inr ⟨hne, ?_⟩), fun c4 => step _ (Or.inr ⟨hne, ?_⟩)⟩
            · rcases k3 with q | ⟨q1, ⟨q2, q3⟩ | ⟨j0, q2, q3, q4, q5⟩⟩
              · exact absurd q.1 hne
              · omega
              · refine Or.inr ⟨j0, by omega, q3, q4, fun j hj hb => ?_⟩
                by_cases z : j = i
                · rw [z]; exact c4
                · exact q5 j (by omega) hb
            · refine Or.inr ⟨i, by omega, cf, rfl, fun j hj hb => ?_⟩
              by_cases z : j = i
              · rw [z]; exact Int.le_refl _
              · rcases k3 with q | ⟨q1, ⟨q2, q3⟩ | ⟨j0, q2, q3, q4, q5⟩⟩
                · exact absurd q.1 hne
                · rw [q3 j (by omega)] at hb
                  exact absurd hb (by decide)
                · have := q5 j (by omega) hb
                  omega
      · rcases ha with q | ⟨q1, q2⟩
        · exact Or.inl q
        · exact Or.inr ⟨q1, Or.inl ⟨q2, fun j hj => absurd hj (by omega)⟩⟩
    refine ⟨⟨(qR_i (by omega) (by omega)), (qR_i (by omega) (by omega))⟩, fun c3 => inner _ (Or.inr ⟨by omega, rfl⟩), fun c3 => inner _ (Or.inl ⟨by omega, rfl⟩)⟩
