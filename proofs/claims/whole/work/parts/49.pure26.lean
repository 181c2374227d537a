/-! PURE 26: the class's actions -/
section ZCLS
variable {th kp sm : Int} {ms mv : Nat → Int} {tk : Nat → Int} {szs : Int} {phs ods : Nat → Int} {pis : Nat → Int64} {ses : Nat → Int} {szx : Int} {phx odx : Nat → Int} {pix : Nat → Int64} {sex : Nat → Int} {szy : Int} {phy ody : Nat → Int} {piy : Nat → Int64} {sey : Nat → Int} {ha : Nat → Nat → Nat} {hc : Nat → qSt}
theorem s_prep {Φ : (Nat → qSt) → Prop} (hW : zW ms (tk, (szs, phs, ods, pis, ses), (szx, phx, odx, pix, sex), (szy, phy, ody, piy, sey))) (hH : zH sm kp mv hc) (h : Φ (qUh hc kp.toNat (qCp (hc kp.toNat) (tk, (szs, phs, ods, pis, ses), (szx, phx, odx, pix, sex), (szy, phy, ody, piy, sey))))) : wp_X4_prepare kp tk szs phs ods pis ses szx phx odx pix sex szy phy ody piy sey ha hc Φ := by
  have hk := hH.2.1
  unfold wp_X4_prepare
  exact ⟨⟨by omega, by omega⟩, hW.2.1.2, hW.2.2.1.2, fun g e => by rw [e]; exact h⟩
theorem a_set {x y : Int} {Φ : Int → Int → (Nat → Int) → (Nat → Nat → Nat) → (Nat → qSt) → Prop} (hW : zW ms (tk, (szs, phs, ods, pis, ses), (szx, phx, odx, pix, sex), (szy, phy, ody, piy, sey))) (hH : zH sm kp mv hc) (hx : qR x) (hy : qR y) (h : ∀ r se' kp' ha' hc', zsetR x y ses r se' → zHn r sm ms mv kp' hc' → Φ r kp' se' ha' hc') : wp_X4_set x y kp tk szs phs ods pis ses szx phx odx pix sex szy phy ody piy sey ha hc Φ := by
  have hG : zG ms szs phs ods pis ses := hW.1
  unfold wp_X4_set
  exact s_prep hW hH (t_X1_putSetting hx hy (fun r se' hr => s_rec hW hH (by have := zsetR_b hG.2.2.1 hr; exact (qR_i (by omega) (by omega))) (fun kp' ha' hc' hn => h r se' kp' ha' hc' hr hn)))
theorem a_setPhosphor {x y : Int} {Φ : Int → Int → (Nat → Int) → (Nat → Nat → Nat) → (Nat → qSt) → Prop} (hW : zW ms (tk, (szs, phs, ods, pis, ses), (szx, phx, odx, pix, sex), (szy, phy, ody, piy, sey))) (hH : zH sm kp mv hc) (hx : qR x) (hy : qR y) (h : ∀ r ph' kp' ha' hc', zkindR x y phs r ph' → zHn r sm ms mv kp' hc' → Φ r kp' ph' ha' hc') : wp_X4_setPhosphor x y kp tk szs phs ods pis ses szx phx odx pix sex szy phy ody piy sey ha hc Φ := by
  have hG : zG ms szs phs ods pis ses := hW.1
  unfold wp_X4_setPhosphor
  exact s_prep hW hH (t_X1_putPhosphor hx hy (fun r ph' hr => s_rec hW hH (by have := zkindR_b hG.2.2.2 hr; exact (qR_i (by omega) (by omega))) (fun kp' ha' hc' hn => h r ph' kp' ha' hc' hr hn)))
theorem a_light {x : Int} {Φ : Int → Int → Int → (Nat → Int) → (Nat → Nat → Nat) → (Nat → qSt) → Prop} (hW : zW ms (tk, (szs, phs, ods, pis, ses), (szx, phx, odx, pix, sex), (szy, phy, ody, piy, sey))) (hH : zH sm kp mv hc) (hx : qR x) (h : ∀ r sz' od' kp' ha' hc', zlightR x szs ods r sz' od' → zHn r sm ms mv kp' hc' → Φ r kp' sz' od' ha' hc') : wp_X4_light x kp tk szs phs ods pis ses szx phx odx pix sex szy phy ody piy sey ha hc Φ := by
  have hG : zG ms szs phs ods pis ses := hW.1
  unfold wp_X4_light
  exact s_prep hW hH (t_X1_addSpot hx hG.2.1 (fun r sz' od' hr => s_rec hW hH (by have := zlightR_b hG.2.1 hr; exact (qR_i (by omega) (by omega))) (fun kp' ha' hc' hn => h r sz' od' kp' ha' hc' hr hn)))
theorem a_darken {x : Int} {Φ : Int → Int → Int → (Nat → Int) → (Nat → Nat → Nat) → (Nat → qSt) → Prop} (hW : zW ms (tk, (szs, phs, ods, pis, ses), (szx, phx, odx, pix, sex), (szy, phy, ody, piy, sey))) (hH : zH sm kp mv hc) (hx : qR x) (h : ∀ r sz' od' kp' ha' hc', zdarkR x szs ods r sz' od' → zHn r sm ms mv kp' hc' → Φ r kp' sz' od' ha' hc') : wp_X4_darken x kp tk szs phs ods pis ses szx phx odx pix sex szy phy ody piy sey ha hc Φ := by
  have hG : zG ms szs phs ods pis ses := hW.1
  unfold wp_X4_darken
  exact s_prep hW hH (t_X1_removeSpot hx hG.2.1 (fun r sz' od' hr => s_rec hW hH (by have := zdarkR_b hG.2.1 hr; exact (qR_i (by omega) (by omega))) (fun kp' ha' hc' hn => h r sz' od' kp' ha' hc' hr hn)))
theorem a_exchange {x y : Int} {Φ : Int → Int → (Nat → Int) → (Nat → Nat → Nat) → (Nat → qSt) → Prop} (hW : zW ms (tk, (szs, phs, ods, pis, ses), (szx, phx, odx, pix, sex), (szy, phy, ody, piy, sey))) (hH : zH sm kp mv hc) (hx : qR x) (hy : qR y) (h : ∀ r od' kp' ha' hc', zswapR x y szs ods ses r od' → zHn r sm ms mv kp' hc' → Φ r kp' od' ha' hc') : wp_X4_exchange x y kp tk szs phs ods pis ses szx phx odx pix sex szy phy ody piy sey ha hc Φ := by
  have hG : zG ms szs phs ods pis ses := hW.1
  unfold wp_X4_exchange
  exact s_prep hW hH (t_X1_swapPositions hx hy hG.2.1 hG.2.2.1 (fun r od' hr => s_rec hW hH (by have := zswapR_b hG.2.1 hr; exact (qR_i (by omega) (by omega))) (fun kp' ha' hc' hn => h r od' kp' ha' hc' hr hn)))
theorem a_sort {x : Int} {Φ : Int → Int → (Nat → Int) → (Nat → Nat → Nat) → (Nat → qSt) → Prop} (hW : zW ms (tk, (szs, phs, ods, pis, ses), (szx, phx, odx, pix, sex), (szy, phy, ody, piy, sey))) (hH : zH sm kp mv hc) (hx : qR x) (h : ∀ r od' kp' ha' hc', zsortR x szs phs ods pis ses r od' → zHn r sm ms mv kp' hc' → Φ r kp' od' ha' hc') : wp_X4_sort x kp tk szs phs ods pis ses szx phx odx pix sex szy phy ody piy sey ha hc Φ := by
  have hG : zG ms szs phs ods pis ses := hW.1
  unfold wp_X4_sort
  exact s_prep hW hH (t_X1_arrange hx hG.2.2.2 hG.2.1 hG.2.2.1 (fun r od' hr => s_rec hW hH (by have := zsortR_b hG.2.1 hr; exact (qR_i (by omega) (by omega))) (fun kp' ha' hc' hn => h r od' kp' ha' hc' hr hn)))
theorem a_draw {x y z : Int} {Φ : Int → Int → (Nat → Int64) → (Nat → Nat → Nat) → (Nat → qSt) → Prop} (hW : zW ms (tk, (szs, phs, ods, pis, ses), (szx, phx, odx, pix, sex), (szy, phy, ody, piy, sey))) (hH : zH sm kp mv hc) (hx : qR x) (hy : qR y) (hz : qR z) (h : ∀ r pi' kp' ha' hc', zdrawR x y z pis r pi' → zHn r sm ms mv kp' hc' → Φ r kp' pi' ha' hc') : wp_X4_draw x y z kp tk szs phs ods pis ses szx phx odx pix sex szy phy ody piy sey ha hc Φ := by
  have hG : zG ms szs phs ods pis ses := hW.1
  unfold wp_X4_draw
  exact s_prep hW hH (t_X1_paint hx hy hz (fun r pi' hr => s_rec hW hH (by have := zdrawR_b hr; exact (qR_i (by omega) (by omega))) (fun kp' ha' hc' hn => h r pi' kp' ha' hc' hr hn)))
theorem s_X2_isSlot {x : Int} {Φ : Int → Prop} (hx : qR x) (h : Φ (if 0 ≤ x ∧ x < 2 then 1 else 0)) : wp_X2_isSlot x Φ := by
  unfold wp_X2_isSlot wp_X2_isSlot_13 wp_X2_isSlot_14
  refine ⟨hx, fun c => ⟨Or.inl rfl, ?_⟩, fun c => ⟨⟨hx, by decide⟩, fun c2 => ⟨Or.inl rfl, ?_⟩, fun c2 => ⟨Or.inr rfl, ?_⟩⟩⟩
  · rwa [if_neg (by omega)] at h
  · rwa [if_neg (by omega)] at h
  · rwa [if_pos (by omega)] at h
theorem a_take {x : Int} {Φ : Int → Int → (Nat → Int) → Int → (Nat → Int) → (Nat → Int) → (Nat → Int64) → (Nat → Int) → Int → (Nat → Int) → (Nat → Int) → (Nat → Int64) → (Nat → Int) → (Nat → Nat → Nat) → (Nat → qSt) → Prop} (hW : zW ms (tk, (szs, phs, ods, pis, ses), (szx, phx, odx, pix, sex), (szy, phy, ody, piy, sey))) (hH : zH sm kp mv hc) (hx : qR x) (h0 : ¬ (0 ≤ x ∧ x < 2) → ∀ kp' ha' hc', zHn (-1) sm ms mv kp' hc' → Φ (-1) kp' tk szx phx odx pix sex szy phy ody piy sey ha' hc') (h1 : x = 0 → ∀ kp' ha' hc', zHn szs sm ms mv kp' hc' → Φ szs kp' (qU tk 0 1) szs phs ods pis ses szy phy ody piy sey ha' hc') (h2 : x = 1 → ∀ kp' ha' hc', zHn szs sm ms mv kp' hc' → Φ szs kp' (qU tk 1 1) szx phx odx pix sex szs phs ods pis ses ha' hc') : wp_X4_take x kp tk szs phs ods pis ses szx phx odx pix sex szy phy ody piy sey ha hc Φ := by
  have hG : zG ms szs phs ods pis ses := hW.1
  have hsz := hG.2.1.1
  unfold wp_X4_take wp_X2_keepSnapshot wp_X1_copyFrom
  refine s_prep hW hH (s_X2_isSlot hx ?_)
  by_cases c : 0 ≤ x ∧ x < 2
  · rw [if_pos c]
    refine ⟨by decide, fun _ => ⟨c, fun c2 => ⟨c, Or.inr rfl, fun g9 e9 => ?_⟩, fun c2 => ⟨c, Or.inr rfl, fun g16 e16 => ?_⟩⟩, fun z => absurd (by decide) z⟩
    · subst c2
      rw [e9]
      exact s_rec hW hH (qR_i (by omega) (by omega)) (fun kp' ha' hc' hn => h1 rfl kp' ha' hc' hn)
    · have e1 : x = 1 := by omega
      subst e1
      rw [e16]
      exact s_rec hW hH (qR_i (by omega) (by omega)) (fun kp' ha' hc' hn => h2 rfl kp' ha' hc' hn)
  · rw [if_neg c]
    exact ⟨by decide, fun z => absurd rfl z, fun _ => s_rec hW hH (by decide) (fun kp' ha' hc' hn => h0 c kp' ha' hc' hn)⟩
theorem a_restore {x : Int} {Φ : Int → Int → Int → (Nat → Int) → (Nat → Int) → (Nat → Int64) → (Nat → Int) → (Nat → Nat → Nat) → (Nat → qSt) → Prop} (hW : zW ms (tk, (szs, phs, ods, pis, ses), (szx, phx, odx, pix, sex), (szy, phy, ody, piy, sey))) (hH : zH sm kp mv hc) (hx : qR x) (h0 : ¬ (0 ≤ x ∧ x < 2) → ∀ kp' ha' hc', zHn (-1) sm ms mv kp' hc' → Φ (-1) kp' szs phs ods pis ses ha' hc') (h1 : (0 ≤ x ∧ x < 2) → tk x.toNat = 0 → ∀ kp' ha' hc', zHn (-2) sm ms mv kp' hc' → Φ (-2) kp' szs phs ods pis ses ha' hc') (h2 : x = 0 → tk 0 = 1 → ∀ kp' ha' hc', zHn szx sm ms mv kp' hc' → Φ szx kp' szx phx odx pix sex ha' hc') (h3 : x = 1 → tk 1 = 1 → ∀ kp' ha' hc', zHn szy sm ms mv kp' hc' → Φ szy kp' szy phy ody piy sey ha' hc') : wp_X4_restore x kp tk szs phs ods pis ses szx phx odx pix sex szy phy ody piy sey ha hc Φ := by
  have hW2 := hW
  obtain ⟨-, ⟨-, f0⟩, ⟨-, f1⟩, gx, gy⟩ := hW2
  have f0 : tk 0 = 0 ∨ tk 0 = 1 := f0
  have f1 : tk 1 = 0 ∨ tk 1 = 1 := f1
  have gx : tk 0 = 1 → zG (fun k => ms (212 + k)) szx phx odx pix sex := gx
  have gy : tk 1 = 1 → zG (fun k => ms (424 + k)) szy phy ody piy sey := gy
  unfold wp_X4_restore wp_X2_showSnapshot wp_X1_copyFrom
  refine s_prep hW hH (s_X2_isSlot hx ?_)
  by_cases c : 0 ≤ x ∧ x < 2
  · rw [if_pos c]
    refine ⟨by decide, fun _ => ⟨c, fun v3 e3 => ?_⟩, fun z => absurd (by decide) z⟩
    rcases (show x = 0 ∨ x = 1 by omega) with rfl | rfl
    · have e3 : v3 = tk 0 := e3
      refine ⟨by rw [e3]; rcases f0 with q | q <;> rw [q] <;> decide, fun c2 => ⟨c, fun _ => ?_, fun z => absurd rfl z⟩, fun c2 => s_rec hW hH (by decide) (fun kp' ha' hc' hn => h1 c (by show tk 0 = 0; omega) kp' ha' hc' hn)⟩
      have q1 : tk 0 = 1 := by omega
      have hb := (gx q1).2.1.1
      exact s_rec hW hH (qR_i (by omega) (by omega)) (fun kp' ha' hc' hn => h2 rfl q1 kp' ha' hc' hn)
    · have e3 : v3 = tk 1 := e3
      refine ⟨by rw [e3]; rcases f1 with q | q <;> rw [q] <;> decide, fun c2 => ⟨c, fun z => absurd z (by decide), fun _ => ?_⟩, fun c2 => s_rec hW hH (by decide) (fun kp' ha' hc' hn => h1 c (by show tk 1 = 0; omega) kp' ha' hc' hn)⟩
      have q1 : tk 1 = 1 := by omega
      have hb := (gy q1).2.1.1
      exact s_rec hW hH (qR_i (by omega) (by omega)) (fun kp' ha' hc' hn => h3 rfl q1 kp' ha' hc' hn)
  · rw [if_neg c]
    exact ⟨by decide, fun z => absurd rfl z, fun _ => s_rec hW hH (by decide) (fun kp' ha' hc' hn => h0 c kp' ha' hc' hn)⟩
theorem a_undo {Φ : Int → Int → (Nat → Int) → Int → (Nat → Int) → (Nat → Int) → (Nat → Int64) → (Nat → Int) → Int → (Nat → Int) → (Nat → Int) → (Nat → Int64) → (Nat → Int) → Int → (Nat → Int) → (Nat → Int) → (Nat → Int64) → (Nat → Int) → Prop} (hH : zH sm kp mv hc) (h0 : kp = 0 → Φ (-2) kp tk szs phs ods pis ses szx phx odx pix sex szy phy ody piy sey) (h1 : 1 ≤ kp → Φ (kp - 1) (kp - 1) (qU (qU tk 0 ((hc (kp - 1).toNat).1 0)) 1 ((hc (kp - 1).toNat).1 1)) (hc (kp - 1).toNat).2.1.1 (hc (kp - 1).toNat).2.1.2.1 (hc (kp - 1).toNat).2.1.2.2.1 (hc (kp - 1).toNat).2.1.2.2.2.1 (hc (kp - 1).toNat).2.1.2.2.2.2 (hc (kp - 1).toNat).2.2.1.1 (hc (kp - 1).toNat).2.2.1.2.1 (hc (kp - 1).toNat).2.2.1.2.2.1 (hc (kp - 1).toNat).2.2.1.2.2.2.1 (hc (kp - 1).toNat).2.2.1.2.2.2.2 (hc (kp - 1).toNat).2.2.2.1 (hc (kp - 1).toNat).2.2.2.2.1 (hc (kp - 1).toNat).2.2.2.2.2.1 (hc (kp - 1).toNat).2.2.2.2.2.2.1 (hc (kp - 1).toNat).2.2.2.2.2.2.2) : wp_X4_undo kp tk szs phs ods pis ses szx phx odx pix sex szy phy ody piy sey ha hc Φ := by
  obtain ⟨-, hk, hh⟩ := hH
  unfold wp_X4_undo
  refine ⟨⟨(qR_i (by omega) (by omega)), (qR_i (by omega) (by omega))⟩, fun c v2 e2 => ?_, fun c => h0 (by omega)⟩
  have hw := hh (kp - 1).toNat (by omega)
  rw [e2]
  refine ⟨⟨by omega, by omega⟩, hw.2.1.2, hw.2.2.1.2, ?_⟩
  rintro _ rfl _ rfl _ rfl _ rfl _ rfl _ rfl _ rfl _ rfl _ rfl _ rfl _ rfl _ rfl _ rfl _ rfl _ rfl _ rfl
  exact h1 c
theorem a_run {tl pp : Int} {tx nu : Nat → Int} {Φ : Int → Int → Int → Int → (Nat → Int) → (Nat → Int) → Int → (Nat → Int) → (Nat → Int) → (Nat → Int64) → (Nat → Int) → Int → (Nat → Int) → (Nat → Int) → (Nat → Int64) → (Nat → Int) → Int → (Nat → Int) → (Nat → Int) → (Nat → Int64) → (Nat → Int) → (Nat → Nat → Nat) → (Nat → qSt) → Prop} (hW : zW ms (tk, (szs, phs, ods, pis, ses), (szx, phx, odx, pix, sex), (szy, phy, ody, piy, sey))) (hH : zH sm kp mv hc) (ht : zTx tl tx) (h1 : ∀ (n : Nat) (res sz' : Int) (ph' od' : Nat → Int) (pi' : Nat → Int64) (pp' : Int) (nu' : Nat → Int), zRun (zsg tl tx) tl ses n (zend zSp (zsg tl tx) 0) 0 szs phs ods pis res sz' ph' od' pi' → (-2000 ≤ res ∧ res ≤ 200) → (res < 0 → ∀ (tk' : Nat → Int) (hc' : Nat → qSt), tk' 0 = tk 0 → tk' 1 = tk 1 → zH sm kp mv hc' → Φ res kp tl pp' nu' tk' szs phs ods pis ses szx phx odx pix sex szy phy ody piy sey ha hc') ∧ (0 ≤ res → (zOk sz' od' ∧ zPh ph') → ∀ kp' ha' hc', zHn res sm ms mv kp' hc' → Φ res kp' 0 pp' nu' tk sz' ph' od' pi' ses szx phx odx pix sex szy phy ody piy sey ha' hc')) : wp_X4_run kp tl pp tx nu tk szs phs ods pis ses szx phx odx pix sex szy phy ody piy sey ha hc Φ := by
  have hG : zG ms szs phs ods pis ses := hW.1
  have hk := hH.2.1
  unfold wp_X4_run
  refine s_prep hW hH (s_X0_runOn ht hG.2.1 hG.2.2.2 hG.2.2.1 (fun n res sz' ph' od' pi' pp' nu' hrun hres hok => ?_))
  obtain ⟨q1, q2⟩ := h1 n res sz' ph' od' pi' pp' nu' hrun hres
  refine ⟨(qR_i (by omega) (by omega)), fun c => ?_, fun c => ⟨⟨by omega, by omega⟩, ?_⟩⟩
  · unfold wp_X0_empty
    exact s_rec hW hH (qR_i (by omega) (by omega)) (fun kp' ha' hc' hn => q2 c (hok c) kp' ha' hc' hn)
  · have eq : qUh hc kp.toNat (qCp (hc kp.toNat) (tk, (szs, phs, ods, pis, ses), (szx, phx, odx, pix, sex), (szy, phy, ody, piy, sey))) kp.toNat = qCp (hc kp.toNat) (tk, (szs, phs, ods, pis, ses), (szx, phx, odx, pix, sex), (szy, phy, ody, piy, sey)) := by
      rw [qUh_a, if_pos rfl]
    rw [eq]
    refine ⟨hW.2.1.2, hW.2.2.1.2, ?_⟩
    rintro _ rfl _ rfl _ rfl _ rfl _ rfl _ rfl _ rfl _ rfl _ rfl _ rfl _ rfl _ rfl _ rfl _ rfl _ rfl _ rfl
    refine q1 (by omega) _ _ rfl rfl ?_
    obtain ⟨a1, a2, a3⟩ := hH
    refine ⟨a1, a2, fun i hi => ?_⟩
    rw [qUh_a, if_neg (by omega)]
    exact a3 i hi
end ZCLS
