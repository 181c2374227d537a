/-! PURE 22: the model's commands -/
theorem zti_b {p : Nat} {tl : Int} {tx : Nat → Int} (ht : zTx tl tx) (hp : (p : Int) ≤ tl) : p ≤ zti (zsg tl tx) tl p ∧ (zti (zsg tl tx) tl p : Int) ≤ tl := by
  have h1 := zend_b (P := zLe) ht (by decide) _ p hp rfl
  have h2 := zend_b (P := zDi) ht (by decide) _ p hp rfl
  unfold zti
  split
  · exact ⟨h1.1, h1.2.1⟩
  · split
    · exact ⟨h2.1, h2.2.1⟩
    · split <;> omega
theorem ztk_b (sg : Nat → Int) (tl : Int) (p : Nat) : 0 ≤ ztk sg tl p ∧ ztk sg tl p ≤ 3 := by
  unfold ztk
  repeat' split
  all_goals omega
theorem zwoN_f {q : Nat → Bool} : ∀ n c : Nat, (∀ j : Nat, c ≤ j → j < c + n → q j = false) → zwoN q n c = -1
  | 0, _, _ => rfl
  | n + 1, c, h => by
    rw [zwoN, if_neg (by rw [h c (by omega) (by omega)]; decide)]
    exact zwoN_f n (c + 1) (fun j h1 h2 => h j (by omega) (by omega))
theorem zwo_no {p : Nat} {tl : Int} {tx : Nat → Int} (ht : zTx tl tx) (hp : (p : Int) ≤ tl) (h : zLe (zsg tl tx p) = false) : zwo (zsg tl tx) p = -1 := by
  have ht1 := ht.1
  unfold zwo
  rw [zend_n (by omega) (z140 ht (by decide)) h]
  refine zwoN_f 7 0 (fun j h1 h2 => ?_)
  have := (zwl_c j (by omega)).2.2.1
  unfold zisW
  rw [Bool.and_eq_false_iff]
  exact Or.inl (decide_eq_false (by omega))
theorem ztk_1 {sg : Nat → Int} {tl : Int} {p : Nat} (h : zLe (sg p) = true) : ztk sg tl p = 1 ∧ zti sg tl p = zend zLe sg p := by
  unfold ztk zti
  rw [if_pos h, if_pos h]
  exact ⟨rfl, rfl⟩
theorem ztk_not1 {sg : Nat → Int} {tl : Int} {p : Nat} (h : ¬ zLe (sg p) = true) : ztk sg tl p ≠ 1 := by
  unfold ztk
  rw [if_neg h]
  repeat' split
  all_goals decide
theorem ztk_2 {sg : Nat → Int} {tl : Int} {p : Nat} (h : zDi (sg p) = true) : ztk sg tl p = 2 ∧ zti sg tl p = zend zDi sg p := by
  have h2 : ¬ zLe (sg p) = true := by
    unfold zLe zDi at *
    rw [decide_eq_true_eq] at *
    omega
  unfold ztk zti
  rw [if_neg h2, if_pos h, if_neg h2, if_pos h]
  exact ⟨rfl, rfl⟩
theorem ztk_not2 {sg : Nat → Int} {tl : Int} {p : Nat} (h : ¬ zDi (sg p) = true) : ztk sg tl p ≠ 2 := by
  unfold ztk
  rw [if_neg h]
  repeat' split
  all_goals decide
theorem ztk_3 {tl : Int} {tx : Nat → Int} {p : Nat} (h : zsg tl tx p = 59) : ztk (zsg tl tx) tl p = 3 ∧ zti (zsg tl tx) tl p = p + 1 ∧ (p : Int) < tl := by
  have hlt : (p : Int) < tl := by
    by_cases z : (p : Int) < tl
    · exact z
    · rw [zsg_out z] at h
      exact absurd h (by decide)
  unfold ztk zti
  rw [h, if_neg (by decide), if_neg (by decide), if_pos hlt, if_neg (by decide), if_neg (by decide), if_pos hlt]
  exact ⟨rfl, rfl, hlt⟩
theorem s_X5_wordHere {p : Nat} {tl : Int} {tx mt : Nat → Int} {Φ : Int → Prop} (ht : zTx tl tx) (hm : zTm tl tx mt) (hp : (p : Int) ≤ tl) (h : Φ (if zwo (zsg tl tx) p = -1 then 7 else zwo (zsg tl tx) p)) : wp_X5_wordHere tl (ztk (zsg tl tx) tl p) (p : Int) (zti (zsg tl tx) tl p : Nat) mt Φ := by
  have ht1 := ht.1
  have hb := zti_b ht hp
  have hk := ztk_b (zsg tl tx) tl p
  by_cases cl : zLe (zsg tl tx p) = true
  · obtain ⟨e1, e2⟩ := ztk_1 (tl := tl) cl
    rw [e1]
    rw [e2] at hb ⊢
    unfold zwo at h
    generalize zend zLe (zsg tl tx) p = e at hb h ⊢
    unfold wp_X5_wordHere
    refine zl1 (fun (a : Int) => 0 ≤ a ∧ a ≤ 7 ∧ zwoN (zisW (zsg tl tx) p e) (7 - a).toNat a.toNat = zwoN (zisW (zsg tl tx) p e) 7 0) (fun a => 7 - a) (fun n a hi ih => ?_) _ ⟨by omega, by omega, rfl⟩
    obtain ⟨i1, i2, i3⟩ := hi
    unfold wp_X5_wordHere_2 wp_X5_wordHere_22 wp_X5_wordHere_36
    refine ⟨⟨(qR_i (by omega) (by omega)), (qR_i (by omega) (by omega))⟩, fun c => ⟨by decide, fun z => absurd rfl z, fun _ => ?_⟩, fun c => ?_⟩
    · have ea : a = 7 := by omega
      subst ea
      have i3 : (-1 : Int) = zwoN (zisW (zsg tl tx) p e) 7 0 := i3
      rw [if_pos i3.symm] at h
      exact h
    · rw [zwoN_s _ a ⟨by omega, by omega⟩] at i3
      obtain ⟨c', rfl⟩ := Int.eq_ofNat_of_zero_le i1
      refine s_X5_isWord ht hm hb.1 hb.2 (by omega) ?_
      by_cases cw : zisW (zsg tl tx) p e c' = true
      · rw [if_pos cw]
        have cw' : zisW (zsg tl tx) p e (c' : Int).toNat = true := cw
        rw [if_pos cw'] at i3
        rw [← i3, if_neg (by omega)] at h
        exact ⟨(qR_i (by omega) (by omega)), fun _ => ⟨by decide, fun z => absurd rfl z, fun _ => h⟩, fun z => absurd (by decide) z⟩
      · rw [if_neg cw]
        have cw' : ¬ zisW (zsg tl tx) p e (c' : Int).toNat = true := cw
        rw [if_neg cw'] at i3
        refine ⟨(qR_i (by omega) (by omega)), fun z => absurd rfl z, fun _ v5 e5 => ?_⟩
        rw [e5]
        exact ih _ ⟨by omega, by omega, i3⟩ (show (7 - ((c' : Int) + 1)).toNat < (7 - (c' : Int)).toNat by omega)
  · have hn := ztk_not1 (tl := tl) cl
    rw [if_pos (zwo_no ht hp (Bool.eq_false_iff.mpr cl))] at h
    generalize ztk (zsg tl tx) tl p = k at hn hk ⊢
    generalize zti (zsg tl tx) tl p = e at hb ⊢
    unfold wp_X5_wordHere
    refine zl1 (fun (a : Int) => 0 ≤ a ∧ a ≤ 7) (fun a => 7 - a) (fun n a hi ih => ?_) _ ⟨by omega, by omega⟩
    obtain ⟨i1, i2⟩ := hi
    unfold wp_X5_wordHere_2 wp_X5_wordHere_22 wp_X5_wordHere_36
    refine ⟨⟨(qR_i (by omega) (by omega)), (qR_i (by omega) (by omega))⟩, fun c => ⟨⟨(qR_i (by omega) (by omega)), (qR_i (by omega) (by omega))⟩, fun _ => h, fun z => absurd hn z⟩, fun c => ?_⟩
    obtain ⟨c', rfl⟩ := Int.eq_ofNat_of_zero_le i1
    refine s_X5_isWord ht hm hb.1 hb.2 (by omega) ?_
    refine ⟨by split <;> decide, fun _ => ⟨⟨(qR_i (by omega) (by omega)), (qR_i (by omega) (by omega))⟩, fun _ => h, fun z => absurd hn z⟩, fun _ v5 e5 => ?_⟩
    rw [e5]
    exact ih _ ⟨by omega, by omega⟩ (show (7 - ((c' : Int) + 1)).toNat < (7 - (c' : Int)).toNat by omega)
theorem s_X5_fail {x : Int} {Φ : Int → Prop} (h : Φ x) : wp_X5_fail x (-1) Φ := by
  unfold wp_X5_fail wp_X5_fail_16
  exact ⟨by decide, fun c => absurd c (by decide), fun _ => h⟩
theorem s_X5_readNumber {p : Nat} {k : Int} {tl : Int} {tx mt mn : Nat → Int} {Φ : Int → Int → Int → Int → (Nat → Int) → Prop} (ht : zTx tl tx) (hm : zTm tl tx mt) (hp : (p : Int) ≤ tl) (hk : k = 0 ∨ k = 1) (h1 : znm (zsg tl tx) p = false → Φ (ztk (zsg tl tx) tl p) (p : Int) (zti (zsg tl tx) tl p : Nat) (p : Int) mn) (h2 : znm (zsg tl tx) p = true → Φ (ztk (zsg tl tx) tl (zaf (zsg tl tx) p)) (zaf (zsg tl tx) p : Nat) (zti (zsg tl tx) tl (zaf (zsg tl tx) p) : Nat) (-1) (qU mn k.toNat (zvl (zsg tl tx) p))) : wp_X5_readNumber k tl (ztk (zsg tl tx) tl p) (p : Int) (zti (zsg tl tx) tl p : Nat) (-1) mt mn Φ := by
  have ht1 := ht.1
  have htb := ztk_b (zsg tl tx) tl p
  have hib := zti_b ht hp
  have hsb := zsg_b ht p
  obtain ⟨E1, E2, E3, E4⟩ := zend_b (P := zDi) ht (by decide) _ p hp rfl
  unfold wp_X5_readNumber wp_X5_readNumber_47
  by_cases cd : zDi (zsg tl tx p) = true
  · obtain ⟨e1, e2⟩ := ztk_2 (tl := tl) cd
    have hne : zend zDi (zsg tl tx) p ≠ p := fun z => by
      rw [z, cd] at E3
      exact absurd E3 (by decide)
    have main : (zend zDi (zsg tl tx) p ≤ p + 4) → znm (zsg tl tx) p = true → wp_X5_readNumber_56 Φ k tl (ztk (zsg tl tx) tl p) (p : Int) (zti (zsg tl tx) tl p : Nat) (-1) mt mn := by
      intro h4 hz
      have h2 := h2 hz
      unfold zvl zaf at h2
      rw [e2]
      have hdig : ∀ j : Nat, j < zend zDi (zsg tl tx) p - p → 48 ≤ zsg tl tx (p + j) ∧ zsg tl tx (p + j) ≤ 57 := fun j hj => by
        have := E4 (p + j) (by omega) (by omega)
        unfold zDi at this
        exact of_decide_eq_true this
      generalize zend zDi (zsg tl tx) p = d at *
      unfold wp_X5_readNumber_56
      refine zl2 (fun (a x : Int) => ∃ i : Nat, x = (p + i : Nat) ∧ p + i ≤ d ∧ a = zdg (zsg tl tx) p i) (fun a x => (d : Int) - x) (fun n a x hi ih => ?_) _ _ ⟨0, rfl, by omega, rfl⟩
      obtain ⟨i, rfl, i1, i2⟩ := hi
      have hv := zdg_b (sg := zsg tl tx) (p := p) i (fun j hj => hdig j (by omega))
      have hp4 : (10 : Int) ^ i ≤ 10000 := by
        rcases (show i = 0 ∨ i = 1 ∨ i = 2 ∨ i = 3 ∨ i = 4 by omega) with q | q | q | q | q <;> rw [q] <;> decide
      unfold wp_X5_readNumber_63
      refine ⟨⟨(qR_i (by omega) (by omega)), (qR_i (by omega) (by omega))⟩, fun c => ⟨by omega, fun g eg => ?_⟩, fun c => s_X5_sign ht hm (by omega) ?_⟩
      · have ei : i = d - p := by omega
        subst ei
        rw [eg, i2]
        exact s_X5_next ht hm E2 h2
      · intro v8 e8 v9 e9
        have hdj := hdig i (by omega)
        rw [e9, show ((p + i : Nat) : Int) + 1 = ((p + (i + 1) : Nat) : Int) by omega]
        refine ih _ _ ⟨i + 1, rfl, by omega, ?_⟩ (show ((d : Int) - ((p + (i + 1) : Nat) : Int)).toNat < ((d : Int) - ((p + i : Nat) : Int)).toNat by omega)
        rw [e8, zdg, ← i2]
        omega
    have bad : ¬ znm (zsg tl tx) p = true → wp_X5_fail (p : Int) (-1) (fun (g11 : Int) => Φ (ztk (zsg tl tx) tl p) (p : Int) (zti (zsg tl tx) tl p : Nat) g11 mn) := fun hz => s_X5_fail (h1 (Bool.eq_false_iff.mpr hz))
    have hznm : znm (zsg tl tx) p = true ↔ (p < zend zDi (zsg tl tx) p ∧ zend zDi (zsg tl tx) p ≤ p + 4 ∧ ¬ (p + 1 < zend zDi (zsg tl tx) p ∧ zsg tl tx p = 48)) := by
      unfold znm
      exact decide_eq_true_iff
    refine ⟨⟨(qR_i (by omega) (by omega)), (qR_i (by omega) (by omega))⟩, fun c => absurd e1 c, fun c => ⟨⟨(qR_i (by omega) (by omega)), (qR_i (by omega) (by omega))⟩, fun c2 => bad ?_, fun c2 => ⟨⟨(qR_i (by omega) (by omega)), (qR_i (by omega) (by omega))⟩, fun c3 => main ?_ ?_, fun c3 => s_X5_sign ht hm (by omega) ⟨⟨(qR_i (by omega) (by omega)), (qR_i (by omega) (by omega))⟩, fun c4 => main ?_ ?_, fun c4 => bad ?_⟩⟩⟩⟩
    · rw [e2] at c2
      rw [hznm]
      omega
    · rw [e2] at c2
      omega
    · rw [e2] at c2 c3
      rw [hznm]
      omega
    · rw [e2] at c2
      omega
    · rw [e2] at c2 c3
      rw [hznm]
      omega
    · rw [e2] at c2 c3
      rw [hznm]
      omega
  · have hn := ztk_not2 (tl := tl) cd
    have hz : znm (zsg tl tx) p = false := by
      unfold znm
      rw [zend_n (by omega) (z140 ht (by decide)) (Bool.eq_false_iff.mpr cd)]
      exact decide_eq_false (by omega)
    exact ⟨⟨(qR_i (by omega) (by omega)), (qR_i (by omega) (by omega))⟩, fun _ => s_X5_fail (h1 hz), fun c => absurd hn c⟩
