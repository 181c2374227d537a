/-! PURE 24: the model's history, and its run -/
theorem zR_c {ms g : Nat → Int} {sz : Int} {ph od : Nat → Int} {pi : Nat → Int64} {se : Nat → Int} (hg : ∀ k : Nat, k < 211 → g k = ms k) (h : zR ms sz ph od pi se) : zR g sz ph od pi se := by
  obtain ⟨h1, h2, h3, h4, h5, h6⟩ := h
  exact ⟨fun k hk => by rw [hg _ (by omega)]; exact h1 k hk, by rw [hg _ (by omega)]; exact h2, fun k hk => by rw [hg _ (by omega)]; exact h3 k hk, fun k hk => by rw [hg _ (by omega)]; exact h4 k hk, fun k hk => by rw [hg _ (by omega)]; exact h5 k hk, fun k hk => by rw [hg _ (by omega)]; exact h6 k hk⟩
theorem zG_c {ms g : Nat → Int} {sz : Int} {ph od : Nat → Int} {pi : Nat → Int64} {se : Nat → Int} (hg : ∀ k : Nat, k < 211 → g k = ms k) (h : zG ms sz ph od pi se) : zG g sz ph od pi se := ⟨zR_c hg h.1, h.2⟩
/-- a state is recorded -/
def zAct (sm : Int) (ms mv : Nat → Int) (sm' : Int) (gv : Nat → Int) : Prop := sm' = (if sm = 5 then 5 else sm + 1) ∧ ∀ i k : Nat, (i : Int) < sm' → k < 635 → gv (635 * i + k) = if (i : Int) + 1 = sm' then ms k else if sm = 5 then mv (635 * (i + 1) + k) else mv (635 * i + k)
theorem zAct_c {sm sm' : Int} {ms ms' mv gv : Nat → Int} (hg : ∀ k : Nat, k < 635 → ms' k = ms k) (h : zAct sm ms mv sm' gv) : zAct sm ms' mv sm' gv := ⟨h.1, fun i k hi hk => by rw [h.2 i k hi hk, hg k hk]⟩
theorem s_X5_act49 {s : Nat} {ms mv : Nat → Int} {Φ : Int → (Nat → Int) → Prop} (hs : s ≤ 4) (h : ∀ g : Nat → Int, (∀ j : Nat, j < 635 * s → g j = mv j) → (∀ k : Nat, k < 635 → g (635 * s + k) = ms k) → Φ ((s : Int) + 1) g) : wp_X5_act_49 Φ (s : Int) ms mv := by
  unfold wp_X5_act_49
  refine zl2 (fun (x : Int) (g : Nat → Int) => ∃ i : Nat, x = i ∧ i ≤ 635 ∧ (∀ j : Nat, j < 635 * s → g j = mv j) ∧ (∀ k : Nat, k < i → g (635 * s + k) = ms k)) (fun x _ => 635 - x) (fun n x g hi ih => ?_) _ _ ⟨0, rfl, by omega, fun _ _ => rfl, fun k hk => absurd hk (by omega)⟩
  obtain ⟨i, rfl, i1, i2, i3⟩ := hi
  unfold wp_X5_act_51
  refine ⟨⟨(qR_i (by omega) (by omega)), (qR_i (by omega) (by omega))⟩, fun c v2 e2 => ?_, fun c => ⟨⟨by omega, by omega⟩, fun v3 e3 => ⟨⟨by omega, by omega⟩, fun g4 e4 v5 e5 => ?_⟩⟩⟩
  · rw [e2]
    exact h g i2 (fun k hk => i3 k (by omega))
  · rw [e5]
    refine ih _ _ ⟨i + 1, by omega, by omega, fun j hj => ?_, fun k hk => ?_⟩ (show (635 - ((i : Int) + 1)).toNat < (635 - (i : Int)).toNat by omega)
    · rw [e4, qU_a, if_neg (by omega)]
      exact i2 j hj
    · rw [e4, qU_a]
      by_cases z : k = i
      · subst z
        rw [if_pos (by omega), e3]
        rfl
      · rw [if_neg (by omega)]
        exact i3 k (by omega)
theorem s_X5_act {sm : Int} {ms mv : Nat → Int} {Φ : Int → (Nat → Int) → Prop} (hs : 0 ≤ sm ∧ sm ≤ 5) (h : ∀ (sm' : Int) (gv : Nat → Int), zAct sm ms mv sm' gv → Φ sm' gv) : wp_X5_act sm ms mv Φ := by
  unfold wp_X5_act
  refine ⟨⟨(qR_i (by omega) (by omega)), (qR_i (by omega) (by omega))⟩, fun c => ?_, fun c => ?_⟩
  · obtain ⟨s, rfl⟩ := Int.eq_ofNat_of_zero_le hs.1
    refine s_X5_act49 (by omega) (fun g g1 g2 => h _ _ ⟨by rw [if_neg c], fun i k hi hk => ?_⟩)
    by_cases z : i = s
    · subst z
      rw [if_pos rfl]
      exact g2 k hk
    · rw [if_neg (by omega), if_neg c]
      exact g1 _ (by omega)
  · have e5 : sm = 5 := Classical.not_not.mp c
    subst e5
    refine zl2 (fun (x : Int) (g : Nat → Int) => ∃ i : Nat, x = i ∧ i ≤ 2540 ∧ (∀ j : Nat, j < i → g j = mv (j + 635)) ∧ (∀ j : Nat, i ≤ j → g j = mv j)) (fun x _ => 2540 - x) (fun n x g hi ih => ?_) _ _ ⟨0, rfl, by omega, fun j hj => absurd hj (by omega), fun _ _ => rfl⟩
    obtain ⟨i, rfl, i1, i2, i3⟩ := hi
    unfold wp_X5_act_10
    refine ⟨⟨(qR_i (by omega) (by omega)), (qR_i (by omega) (by omega))⟩, fun c2 v7 e7 => ?_, fun c2 => ⟨⟨by omega, by omega⟩, fun v8 e8 => ⟨⟨by omega, by omega⟩, fun g9 e9 v10 e10 => ?_⟩⟩⟩
    · rw [e7]
      refine s_X5_act49 (s := 4) (by omega) (fun g' g1 g2 => h _ _ ⟨rfl, fun a k ha hk => ?_⟩)
      by_cases z : a = 4
      · subst z
        rw [if_pos rfl]
        exact g2 k hk
      · rw [if_neg (by omega), if_pos rfl, g1 _ (by omega), i2 _ (by omega), show 635 * (a + 1) + k = 635 * a + k + 635 by omega]
    · rw [e10]
      refine ih _ _ ⟨i + 1, by omega, by omega, fun j hj => ?_, fun j hj => ?_⟩ (show (2540 - ((i : Int) + 1)).toNat < (2540 - (i : Int)).toNat by omega)
      · rw [e9, qU_a]
        by_cases z : j = i
        · subst z
          rw [if_pos (by omega), e8, show ((j : Int) + 635).toNat = j + 635 by omega]
          exact i3 _ (by omega)
        · rw [if_neg (by omega)]
          exact i2 j (by omega)
      · rw [e9, qU_a, if_neg (by omega)]
        exact i3 j (by omega)
section ZRUN
variable {Φ : Int → Int → Int → Int → Int → Int → Int → Int → (Nat → Int) → (Nat → Int) → (Nat → Int) → (Nat → Int) → (Nat → Int) → Prop}
/-- the two states change their places -/
theorem s_X5_run72 {x1 th sm le tk fr ti fa : Int} {ms ma mv mn ml : Nat → Int} (hf : -1 ≤ fa ∧ fa ≤ 1000) (hs : 0 ≤ sm ∧ sm ≤ 5) (h1 : 0 ≤ fa → ∀ g ga : Nat → Int, (∀ k : Nat, k < 635 → g k = ma k) → Φ (-1000 - fa) th sm le tk fr ti fa g ga mv mn ml) (h2 : fa < 0 → ∀ (sm' : Int) (g ga gv : Nat → Int), zAct sm ma mv sm' gv → (∀ k : Nat, k < 635 → g k = ms k) → Φ x1 th sm' 0 tk fr ti fa g ga gv mn ml) : wp_X5_run_72 Φ x1 th sm le tk fr ti fa ms ma mv mn ml := by
  unfold wp_X5_run_72
  refine zl3 (fun (x : Int) (g ga : Nat → Int) => ∃ i : Nat, x = i ∧ i ≤ 635 ∧ (∀ k : Nat, k < i → g k = ma k ∧ ga k = ms k) ∧ (∀ k : Nat, i ≤ k → g k = ms k ∧ ga k = ma k)) (fun x _ _ => 635 - x) (fun n x g ga hi ih => ?_) _ _ _ ⟨0, rfl, by omega, fun k hk => absurd hk (by omega), fun _ _ => ⟨rfl, rfl⟩⟩
  obtain ⟨i, rfl, i1, i2, i3⟩ := hi
  unfold wp_X5_run_74
  refine ⟨⟨(qR_i (by omega) (by omega)), (qR_i (by omega) (by omega))⟩, fun c => ⟨(qR_i (by omega) (by omega)), fun c2 => s_X5_act hs (fun sm' gv hact => ?_), fun c2 => h1 (by omega) g ga (fun k hk => (i2 k (by omega)).1)⟩, fun c => ⟨⟨by omega, by omega⟩, fun v10 e10 => ⟨⟨by omega, by omega⟩, fun v11 e11 => ⟨⟨by omega, by omega⟩, fun g12 e12 => ⟨⟨by omega, by omega⟩, fun g13 e13 v14 e14 => ?_⟩⟩⟩⟩⟩
  · have hact := zAct_c (ms' := ma) (fun k hk => ((i2 k (by omega)).1).symm) hact
    refine zl2 (fun (x : Int) (g' : Nat → Int) => ∃ i : Nat, x = i ∧ i ≤ 635 ∧ ∀ k : Nat, k < i → g' k = ms k) (fun x _ => 635 - x) (fun n x g' hi ih => ?_) _ _ ⟨0, rfl, by omega, fun k hk => absurd hk (by omega)⟩
    obtain ⟨j, rfl, j1, j2⟩ := hi
    unfold wp_X5_run_135
    refine ⟨⟨(qR_i (by omega) (by omega)), (qR_i (by omega) (by omega))⟩, fun c3 => h2 c2 sm' g' ga gv hact (fun k hk => j2 k (by omega)), fun c3 => ⟨⟨by omega, by omega⟩, fun v2 e2 => ⟨⟨by omega, by omega⟩, fun g3 e3 v4 e4 => ?_⟩⟩⟩
    rw [e4]
    refine ih _ _ ⟨j + 1, by omega, by omega, fun k hk => ?_⟩ (show (635 - ((j : Int) + 1)).toNat < (635 - (j : Int)).toNat by omega)
    rw [e3, qU_a]
    by_cases z : k = j
    · subst z
      rw [if_pos (by omega), e2]
      exact (i2 k (by omega)).2
    · rw [if_neg (by omega)]
      exact j2 k (by omega)
  · rw [e14]
    have e10 : v10 = ms i := by rw [e10]; exact (i3 i (by omega)).1
    have e11 : v11 = ma i := by rw [e11]; exact (i3 i (by omega)).2
    refine ih _ _ _ ⟨i + 1, by omega, by omega, fun k hk => ?_, fun k hk => ?_⟩ (show (635 - ((i : Int) + 1)).toNat < (635 - (i : Int)).toNat by omega)
    · rw [e12, e13, qU_a, qU_a]
      by_cases z : k = i
      · subst z
        rw [if_pos (by omega), if_pos (by omega)]
        exact ⟨e11, e10⟩
      · rw [if_neg (by omega), if_neg (by omega)]
        exact i2 k (by omega)
    · rw [e12, e13, qU_a, qU_a, if_neg (by omega), if_neg (by omega)]
      exact i3 k (by omega)
theorem s_X5_run48 {th sm tl : Int} {tx mt ms0 ma mv se : Nat → Int} {res sz' : Int} {ph' od' : Nat → Int} {pi' : Nat → Int64} (ht : zTx tl tx) (hm : zTm tl tx mt) (hs : 0 ≤ sm ∧ sm ≤ 5) (hma : ∀ k : Nat, k < 635 → ma k = ms0 k) (hres : -2000 ≤ res ∧ res ≤ 200) (h1 : res < 0 → ∀ tk fr ti fa (g ga gn gl : Nat → Int), (∀ k : Nat, k < 635 → g k = ms0 k) → Φ res th sm tl tk fr ti fa g ga mv gn gl) (h2 : 0 ≤ res → ∀ tk fr ti fa (sm' : Int) (g ga gv gn gl : Nat → Int), zAct sm ms0 mv sm' gv → zG g sz' ph' od' pi' se → (∀ k : Nat, 211 ≤ k → k < 635 → g k = ms0 k) → Φ res th sm' 0 tk fr ti fa g ga gv gn gl) : ∀ (n p : Nat) (cnt sz : Int) (ph od : Nat → Int) (pi : Nat → Int64) (ms mn ml : Nat → Int), (p : Int) ≤ tl → 0 ≤ cnt → zRun (zsg tl tx) tl se n p cnt sz ph od pi res sz' ph' od' pi' → zG ms sz ph od pi se → zFr ms0 ms → wp_X5_run_48 Φ th sm tl ma mv mt (n + 1) cnt (ztk (zsg tl tx) tl p) (p : Int) (zti (zsg tl tx) tl p : Nat) (-1) ms mn ml := by
  have ht1 := ht.1
  have fin : ∀ (n : Nat) (cnt tk fr ti : Int) (q : Nat) (ms mn ml : Nat → Int), (q : Int) ≤ tl → res = -1000 - (q : Int) → wp_X5_run_48 Φ th sm tl ma mv mt (n + 1) cnt tk fr ti (q : Int) ms mn ml := by
    intro n cnt tk fr ti q ms mn ml hq hr
    unfold wp_X5_run_48
    refine ⟨(qR_i (by omega) (by omega)), fun _ => s_X5_run72 ⟨by omega, by omega⟩ hs (fun _ g ga hg => ?_) (fun z => absurd z (by omega)), fun z => absurd (Int.ofNat_nonneg q) z⟩
    rw [← hr]
    exact h1 (by omega) _ _ _ _ g ga mn ml (fun k hk => (hg k hk).trans (hma k hk))
  intro n
  induction n with
  | zero =>
    intro p cnt sz ph od pi ms mn ml hp hc hrun hG hF
    exact absurd hrun (fun z => z)
  | succ n ih =>
    intro p cnt sz ph od pi ms mn ml hp hc hrun hG hF
    have hk := ztk_b (zsg tl tx) tl p
    have hlt : (p : Int) < tl → ztk (zsg tl tx) tl p ≠ 0 := fun z => by
      unfold ztk
      rw [if_pos z]
      repeat' split
      all_goals decide
    unfold wp_X5_run_48
    refine ⟨by decide, fun z => absurd z (by decide), fun _ => ⟨(qR_i (by omega) (by omega)), fun c => ?_, fun c => ?_⟩⟩
    · have hge : tl ≤ p := by
        by_cases z : (p : Int) < tl
        · exact absurd c (hlt z)
        · omega
      rcases hrun with ⟨-, rfl, rfl, rfl, rfl, rfl⟩ | ⟨z, -⟩ | ⟨z, -⟩
      · refine s_X5_run72 (by decide) hs (fun z => absurd z (by decide)) (fun _ sm' g ga gv hact hg => ?_)
        exact h2 hc _ _ _ _ sm' g ga gv mn ml (zAct_c (fun k hk => (hma k hk).symm) hact) (zG_c (fun k hk => hg k (by omega)) hG) (fun k hk hk2 => (hg k hk2).trans (hF k hk))
      · omega
      · omega
    · rcases hrun with ⟨z, -⟩ | ⟨hpt, q, hq, hbad, hr⟩ | ⟨hpt, w, a, b, q, r, sz1, ph1, od1, pi1, hgood, hq, hab, hcar, hrest⟩
      · exact absurd (show ztk (zsg tl tx) tl p = 0 by
          have hout := zsg_out (tl := tl) (tx := tx) (k := p) (by omega)
          unfold ztk
          rw [hout, if_neg (by decide), if_neg (by decide), if_neg (by omega)]) c
      · refine s_X5_commandBad ht hm hp hbad (fun tk fr ti g v25 e25 => ?_)
        exact fin n v25 tk fr ti q ms g ml hq hr
      · refine s_X5_commandGood ht hm hp hgood hab hG hcar (fun hr0 tk fr ti g v25 e25 => ?_) (fun hr0 g gl gn hg hf v25 e25 => ?_)
        · rcases hrest with ⟨-, hr⟩ | ⟨z, -⟩
          · exact fin n v25 tk fr ti p ms g ml hp hr
          · omega
        · rcases hrest with ⟨z, -⟩ | ⟨-, hrun⟩
          · omega
          · rw [e25]
            exact ih _ _ _ _ _ _ _ _ _ ((zend_b (P := zSp) ht (by decide) _ (q + 1) (by omega) rfl).2.1) (by omega) hrun hg (fun k hk => (hf k hk).trans (hF k hk))
theorem s_X5_run {th sm tl tk fr ti fa : Int} {tx mt ms ma mv mn ml se : Nat → Int} {n : Nat} {res sz sz' : Int} {ph od ph' od' : Nat → Int} {pi pi' : Nat → Int64} (ht : zTx tl tx) (hm : zTm tl tx mt) (hs : 0 ≤ sm ∧ sm ≤ 5) (hG : zG ms sz ph od pi se) (hrun : zRun (zsg tl tx) tl se n (zend zSp (zsg tl tx) 0) 0 sz ph od pi res sz' ph' od' pi') (hres : -2000 ≤ res ∧ res ≤ 200) (h1 : res < 0 → ∀ tk fr ti fa (g ga gn gl : Nat → Int), (∀ k : Nat, k < 635 → g k = ms k) → Φ res 0 sm tl tk fr ti fa g ga mv gn gl) (h2 : 0 ≤ res → ∀ tk fr ti fa (sm' : Int) (g ga gv gn gl : Nat → Int), zAct sm ms mv sm' gv → zG g sz' ph' od' pi' se → (∀ k : Nat, 211 ≤ k → k < 635 → g k = ms k) → Φ res 0 sm' 0 tk fr ti fa g ga gv gn gl) : wp_X5_run th sm tl tk fr ti fa ms ma mv mt mn ml Φ := by
  have ht1 := ht.1
  unfold wp_X5_run
  refine zl2 (fun (x : Int) (g : Nat → Int) => ∃ i : Nat, x = i ∧ i ≤ 635 ∧ ∀ k : Nat, k < i → g k = ms k) (fun x _ => 635 - x) (fun m x g hi ih => ?_) _ _ ⟨0, rfl, by omega, fun k hk => absurd hk (by omega)⟩
  obtain ⟨i, rfl, i1, i2⟩ := hi
  unfold wp_X5_run_7
  refine ⟨⟨(qR_i (by omega) (by omega)), (qR_i (by omega) (by omega))⟩, fun c => s_X5_next (t0 := 0) ht hm (by omega) ⟨n + 1, ?_⟩, fun c => ⟨⟨by omega, by omega⟩, fun v31 e31 => ⟨⟨by omega, by omega⟩, fun g32 e32 v33 e33 => ?_⟩⟩⟩
  · exact s_X5_run48 ht hm hs (fun k hk => i2 k (by omega)) hres h1 h2 n _ 0 sz ph od pi ms mn ml ((zend_b (P := zSp) ht (by decide) _ 0 (by omega) rfl).2.1) (by decide) hrun hG (fun k hk => rfl)
  · rw [e33]
    refine ih _ _ ⟨i + 1, by omega, by omega, fun k hk => ?_⟩ (show (635 - ((i : Int) + 1)).toNat < (635 - (i : Int)).toNat by omega)
    rw [e32, qU_a]
    by_cases z : k = i
    · subst z
      rw [if_pos (by omega), e31]
      rfl
    · rw [if_neg (by omega)]
      exact i2 k (by omega)
end ZRUN
