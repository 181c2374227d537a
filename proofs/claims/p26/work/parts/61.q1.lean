/-! P26, 1: states of the class alone, its history, its actions -/
def zms (sz : Int) (ph od : Nat → Int) (pi : Nat → Int64) (se : Nat → Int) (k : Nat) : Int := if k < 6 then se k else if k = 6 then sz else if k < 19 then od (k - 7) else if k < 83 then ph (k - 19) else if k < 147 then zb (pi 0) (k - 83) else zb (pi 1) (k - 147)
theorem zms_R (sz : Int) (ph od : Nat → Int) (pi : Nat → Int64) (se : Nat → Int) : zR (zms sz ph od pi se) sz ph od pi se := by
  refine ⟨fun k hk => ?_, rfl, fun k hk => ?_, fun k hk => ?_, fun k hk => ?_, fun k hk => ?_⟩
  · unfold zms
    rw [if_pos hk]
  · unfold zms
    rw [if_neg (by omega), if_neg (by omega), if_pos (by omega), show 7 + k - 7 = k by omega]
  · unfold zms
    rw [if_neg (by omega), if_neg (by omega), if_neg (by omega), if_pos (by omega), show 19 + k - 19 = k by omega]
  · unfold zms
    rw [if_neg (by omega), if_neg (by omega), if_neg (by omega), if_neg (by omega), if_pos (by omega), show 83 + k - 83 = k by omega]
  · unfold zms
    rw [if_neg (by omega), if_neg (by omega), if_neg (by omega), if_neg (by omega), if_neg (by omega), show 147 + k - 147 = k by omega]
/-- a screen as it must be -/
def zX (sz : Int) (ph od : Nat → Int) (pi : Nat → Int64) (se : Nat → Int) : Prop := zG (zms sz ph od pi se) sz ph od pi se
theorem zX_i {sz : Int} {ph od : Nat → Int} {pi : Nat → Int64} {se : Nat → Int} (ho : zOk sz od) (hs : zSe se) (hph : zPh ph) : zX sz ph od pi se := ⟨zms_R sz ph od pi se, ho, hs, hph⟩
/-- a state as it must be -/
def zV (st : qSt) : Prop := zX st.2.1.1 st.2.1.2.1 st.2.1.2.2.1 st.2.1.2.2.2.1 st.2.1.2.2.2.2 ∧ (st.1 0 = 0 ∨ st.1 0 = 1) ∧ (st.1 1 = 0 ∨ st.1 1 = 1)
theorem zV_cp {o st : qSt} (h : zV st) : zV (qCp o st) := h
/-- the history as it must be -/
def zHk (kp : Int) (hc : Nat → qSt) : Prop := (0 ≤ kp ∧ kp ≤ 5) ∧ ∀ i : Nat, (i : Int) < kp → zV (hc i)
/-- the history behind an action that answered r on the state st -/
def zHr (r kp : Int) (hc : Nat → qSt) (st : qSt) (kp' : Int) (hc' : Nat → qSt) : Prop := (r < 0 → kp' = kp ∧ ∀ i : Nat, (i : Int) < kp → hc' i = hc i) ∧ (0 ≤ r → (1 ≤ kp' ∧ kp' ≤ 5) ∧ (∀ i : Nat, (i : Int) < kp' → zV (hc' i)) ∧ ∃ o : qSt, hc' (kp' - 1).toNat = qCp o st)
theorem zHr_H {r kp kp' : Int} {hc hc' : Nat → qSt} {st : qSt} (h : zHr r kp hc st kp' hc') (hH : zHk kp hc) : zHk kp' hc' := by
  by_cases c : r < 0
  · obtain ⟨e, h1⟩ := h.1 c
    subst e
    exact ⟨hH.1, fun i hi => by rw [h1 i hi]; exact hH.2 i hi⟩
  · obtain ⟨h1, h2, -⟩ := h.2 (by omega)
    exact ⟨⟨by omega, h1.2⟩, h2⟩
theorem s_rec {kp r : Int} {ha : Nat → Nat → Nat} {hc : Nat → qSt} {st : qSt} {Φ : Int → Int → (Nat → Nat → Nat) → (Nat → qSt) → Prop} (hV : zV st) (hH : zHk kp hc) (hr : qR r) (h : ∀ kp' ha' hc', zHr r kp hc st kp' hc' → Φ r kp' ha' hc') : wp_X4_finish r kp ha (qUh hc kp.toNat (qCp (hc kp.toNat) st)) Φ := by
  obtain ⟨hk, hh⟩ := hH
  unfold wp_X4_finish wp_X4_dropOldest wp_X4_finish_29
  refine ⟨hr, fun c => h _ _ _ ⟨fun _ => ⟨rfl, fun i hi => by rw [qUh_a, if_neg (by omega)]⟩, fun z => absurd z (by omega)⟩, fun c => ⟨⟨(qR_i (by omega) (by omega)), (qR_i (by omega) (by omega))⟩, fun c2 => h _ _ _ ⟨fun z => absurd z c, fun _ => ?_⟩, fun c2 v6 e6 => h _ _ _ ⟨fun z => absurd z c, fun _ => ?_⟩⟩⟩
  · have e5 : kp = 5 := by omega
    subst e5
    refine ⟨by decide, fun i hi => ?_, hc (5 : Int).toNat, rfl⟩
    unfold qRot
    rw [if_neg (by omega), qUh_a]
    by_cases z : i = 4
    · subst z
      rw [if_pos (by decide)]
      exact zV_cp hV
    · rw [if_neg (by omega)]
      exact hh (i + 1) (by omega)
  · refine ⟨by omega, fun i hi => ?_, hc kp.toNat, ?_⟩
    · rw [qUh_a]
      by_cases z : i = kp.toNat
      · rw [if_pos z]
        exact zV_cp hV
      · rw [if_neg z]
        exact hh i (by omega)
    · rw [qUh_a, if_pos (by omega)]
section ZCLS
variable {kp : Int} {tk : Nat → Int} {szs : Int} {phs ods : Nat → Int} {pis : Nat → Int64} {ses : Nat → Int} {szx : Int} {phx odx : Nat → Int} {pix : Nat → Int64} {sex : Nat → Int} {szy : Int} {phy ody : Nat → Int} {piy : Nat → Int64} {sey : Nat → Int} {ha : Nat → Nat → Nat} {hc : Nat → qSt}
theorem s_prep {Φ : (Nat → qSt) → Prop} (hV : zV (tk, (szs, phs, ods, pis, ses), (szx, phx, odx, pix, sex), (szy, phy, ody, piy, sey))) (hH : zHk kp hc) (h : Φ (qUh hc kp.toNat (qCp (hc kp.toNat) (tk, (szs, phs, ods, pis, ses), (szx, phx, odx, pix, sex), (szy, phy, ody, piy, sey))))) : wp_X4_prepare kp tk szs phs ods pis ses szx phx odx pix sex szy phy ody piy sey ha hc Φ := by
  have hk := hH.1
  unfold wp_X4_prepare
  exact ⟨⟨by omega, by omega⟩, hV.2.1, hV.2.2, fun g e => by rw [e]; exact h⟩
theorem a_set {x y : Int} {Φ : Int → Int → (Nat → Int) → (Nat → Nat → Nat) → (Nat → qSt) → Prop} (hW : zV (tk, (szs, phs, ods, pis, ses), (szx, phx, odx, pix, sex), (szy, phy, ody, piy, sey))) (hH : zHk kp hc) (hx : qR x) (hy : qR y) (h : ∀ r se' kp' ha' hc', zsetR x y ses r se' → zHr r kp hc (tk, (szs, phs, ods, pis, ses), (szx, phx, odx, pix, sex), (szy, phy, ody, piy, sey)) kp' hc' → Φ r kp' se' ha' hc') : wp_X4_set x y kp tk szs phs ods pis ses szx phx odx pix sex szy phy ody piy sey ha hc Φ := by
  have hG : zX szs phs ods pis ses := hW.1
  unfold wp_X4_set
  exact s_prep hW hH (t_X1_putSetting hx hy (fun r se' hr => s_rec hW hH (by have := zsetR_b hG.2.2.1 hr; exact (qR_i (by omega) (by omega))) (fun kp' ha' hc' hn => h r se' kp' ha' hc' hr hn)))
theorem a_setPhosphor {x y : Int} {Φ : Int → Int → (Nat → Int) → (Nat → Nat → Nat) → (Nat → qSt) → Prop} (hW : zV (tk, (szs, phs, ods, pis, ses), (szx, phx, odx, pix, sex), (szy, phy, ody, piy, sey))) (hH : zHk kp hc) (hx : qR x) (hy : qR y) (h : ∀ r ph' kp' ha' hc', zkindR x y phs r ph' → zHr r kp hc (tk, (szs, phs, ods, pis, ses), (szx, phx, odx, pix, sex), (szy, phy, ody, piy, sey)) kp' hc' → Φ r kp' ph' ha' hc') : wp_X4_setPhosphor x y kp tk szs phs ods pis ses szx phx odx pix sex szy phy ody piy sey ha hc Φ := by
  have hG : zX szs phs ods pis ses := hW.1
  unfold wp_X4_setPhosphor
  exact s_prep hW hH (t_X1_putPhosphor hx hy (fun r ph' hr => s_rec hW hH (by have := zkindR_b hG.2.2.2 hr; exact (qR_i (by omega) (by omega))) (fun kp' ha' hc' hn => h r ph' kp' ha' hc' hr hn)))
theorem a_light {x : Int} {Φ : Int → Int → Int → (Nat → Int) → (Nat → Nat → Nat) → (Nat → qSt) → Prop} (hW : zV (tk, (szs, phs, ods, pis, ses), (szx, phx, odx, pix, sex), (szy, phy, ody, piy, sey))) (hH : zHk kp hc) (hx : qR x) (h : ∀ r sz' od' kp' ha' hc', zlightR x szs ods r sz' od' → zHr r kp hc (tk, (szs, phs, ods, pis, ses), (szx, phx, odx, pix, sex), (szy, phy, ody, piy, sey)) kp' hc' → Φ r kp' sz' od' ha' hc') : wp_X4_light x kp tk szs phs ods pis ses szx phx odx pix sex szy phy ody piy sey ha hc Φ := by
  have hG : zX szs phs ods pis ses := hW.1
  unfold wp_X4_light
  exact s_prep hW hH (t_X1_addSpot hx hG.2.1 (fun r sz' od' hr => s_rec hW hH (by have := zlightR_b hG.2.1 hr; exact (qR_i (by omega) (by omega))) (fun kp' ha' hc' hn => h r sz' od' kp' ha' hc' hr hn)))
theorem a_darken {x : Int} {Φ : Int → Int → Int → (Nat → Int) → (Nat → Nat → Nat) → (Nat → qSt) → Prop} (hW : zV (tk, (szs, phs, ods, pis, ses), (szx, phx, odx, pix, sex), (szy, phy, ody, piy, sey))) (hH : zHk kp hc) (hx : qR x) (h : ∀ r sz' od' kp' ha' hc', zdarkR x szs ods r sz' od' → zHr r kp hc (tk, (szs, phs, ods, pis, ses), (szx, phx, odx, pix, sex), (szy, phy, ody, piy, sey)) kp' hc' → Φ r kp' sz' od' ha' hc') : wp_X4_darken x kp tk szs phs ods pis ses szx phx odx pix sex szy phy ody piy sey ha hc Φ := by
  have hG : zX szs phs ods pis ses := hW.1
  unfold wp_X4_darken
  exact s_prep hW hH (t_X1_removeSpot hx hG.2.1 (fun r sz' od' hr => s_rec hW hH (by have := zdarkR_b hG.2.1 hr; exact (qR_i (by omega) (by omega))) (fun kp' ha' hc' hn => h r sz' od' kp' ha' hc' hr hn)))
theorem a_exchange {x y : Int} {Φ : Int → Int → (Nat → Int) → (Nat → Nat → Nat) → (Nat → qSt) → Prop} (hW : zV (tk, (szs, phs, ods, pis, ses), (szx, phx, odx, pix, sex), (szy, phy, ody, piy, sey))) (hH : zHk kp hc) (hx : qR x) (hy : qR y) (h : ∀ r od' kp' ha' hc', zswapR x y szs ods ses r od' → zHr r kp hc (tk, (szs, phs, ods, pis, ses), (szx, phx, odx, pix, sex), (szy, phy, ody, piy, sey)) kp' hc' → Φ r kp' od' ha' hc') : wp_X4_exchange x y kp tk szs phs ods pis ses szx phx odx pix sex szy phy ody piy sey ha hc Φ := by
  have hG : zX szs phs ods pis ses := hW.1
  unfold wp_X4_exchange
  exact s_prep hW hH (t_X1_swapPositions hx hy hG.2.1 hG.2.2.1 (fun r od' hr => s_rec hW hH (by have := zswapR_b hG.2.1 hr; exact (qR_i (by omega) (by omega))) (fun kp' ha' hc' hn => h r od' kp' ha' hc' hr hn)))
theorem a_sort {x : Int} {Φ : Int → Int → (Nat → Int) → (Nat → Nat → Nat) → (Nat → qSt) → Prop} (hW : zV (tk, (szs, phs, ods, pis, ses), (szx, phx, odx, pix, sex), (szy, phy, ody, piy, sey))) (hH : zHk kp hc) (hx : qR x) (h : ∀ r od' kp' ha' hc', zsortR x szs phs ods pis ses r od' → zHr r kp hc (tk, (szs, phs, ods, pis, ses), (szx, phx, odx, pix, sex), (szy, phy, ody, piy, sey)) kp' hc' → Φ r kp' od' ha' hc') : wp_X4_sort x kp tk szs phs ods pis ses szx phx odx pix sex szy phy ody piy sey ha hc Φ := by
  have hG : zX szs phs ods pis ses := hW.1
  unfold wp_X4_sort
  exact s_prep hW hH (t_X1_arrange hx hG.2.2.2 hG.2.1 hG.2.2.1 (fun r od' hr => s_rec hW hH (by have := zsortR_b hG.2.1 hr; exact (qR_i (by omega) (by omega))) (fun kp' ha' hc' hn => h r od' kp' ha' hc' hr hn)))
theorem a_draw {x y z : Int} {Φ : Int → Int → (Nat → Int64) → (Nat → Nat → Nat) → (Nat → qSt) → Prop} (hW : zV (tk, (szs, phs, ods, pis, ses), (szx, phx, odx, pix, sex), (szy, phy, ody, piy, sey))) (hH : zHk kp hc) (hx : qR x) (hy : qR y) (hz : qR z) (h : ∀ r pi' kp' ha' hc', zdrawR x y z pis r pi' → zHr r kp hc (tk, (szs, phs, ods, pis, ses), (szx, phx, odx, pix, sex), (szy, phy, ody, piy, sey)) kp' hc' → Φ r kp' pi' ha' hc') : wp_X4_draw x y z kp tk szs phs ods pis ses szx phx odx pix sex szy phy ody piy sey ha hc Φ := by
  have hG : zX szs phs ods pis ses := hW.1
  unfold wp_X4_draw
  exact s_prep hW hH (t_X1_paint hx hy hz (fun r pi' hr => s_rec hW hH (by have := zdrawR_b hr; exact (qR_i (by omega) (by omega))) (fun kp' ha' hc' hn => h r pi' kp' ha' hc' hr hn)))
theorem s_X2_isSlot {x : Int} {Φ : Int → Prop} (hx : qR x) (h : Φ (if 0 ≤ x ∧ x < 2 then 1 else 0)) : wp_X2_isSlot x Φ := by
  unfold wp_X2_isSlot wp_X2_isSlot_13 wp_X2_isSlot_14
  refine ⟨hx, fun c => ⟨Or.inl rfl, ?_⟩, fun c => ⟨⟨hx, by decide⟩, fun c2 => ⟨Or.inl rfl, ?_⟩, fun c2 => ⟨Or.inr rfl, ?_⟩⟩⟩
  · rwa [if_neg (by omega)] at h
  · rwa [if_neg (by omega)] at h
  · rwa [if_pos (by omega)] at h
theorem a_take {x : Int} {Φ : Int → Int → (Nat → Int) → Int → (Nat → Int) → (Nat → Int) → (Nat → Int64) → (Nat → Int) → Int → (Nat → Int) → (Nat → Int) → (Nat → Int64) → (Nat → Int) → (Nat → Nat → Nat) → (Nat → qSt) → Prop} (hW : zV (tk, (szs, phs, ods, pis, ses), (szx, phx, odx, pix, sex), (szy, phy, ody, piy, sey))) (hH : zHk kp hc) (hx : qR x) (h0 : ¬ (0 ≤ x ∧ x < 2) → ∀ kp' ha' hc', zHr (-1) kp hc (tk, (szs, phs, ods, pis, ses), (szx, phx, odx, pix, sex), (szy, phy, ody, piy, sey)) kp' hc' → Φ (-1) kp' tk szx phx odx pix sex szy phy ody piy sey ha' hc') (h1 : x = 0 → ∀ kp' ha' hc', zHr szs kp hc (tk, (szs, phs, ods, pis, ses), (szx, phx, odx, pix, sex), (szy, phy, ody, piy, sey)) kp' hc' → Φ szs kp' (qU tk 0 1) szs phs ods pis ses szy phy ody piy sey ha' hc') (h2 : x = 1 → ∀ kp' ha' hc', zHr szs kp hc (tk, (szs, phs, ods, pis, ses), (szx, phx, odx, pix, sex), (szy, phy, ody, piy, sey)) kp' hc' → Φ szs kp' (qU tk 1 1) szx phx odx pix sex szs phs ods pis ses ha' hc') : wp_X4_take x kp tk szs phs ods pis ses szx phx odx pix sex szy phy ody piy sey ha hc Φ := by
  have hG : zX szs phs ods pis ses := hW.1
  have hsz := hG.2.1.1
  unfold wp_X4_take wp_X2_keepSnapshot wp_X1_copyFrom
  refine s_prep hW hH (s_X2_isSlot hx ?_)
  by_cases c : 0 ≤ x ∧ x < 2
  · rw [if_pos c]
    refine ⟨by decide, fun _ => ⟨c, fun c2 => ⟨c, Or.inr rfl, fun g9 e9 => ?_⟩, fun c2 => ⟨c, Or.inr rfl, fun g16 e16 => ?_⟩⟩, fun z => absurd (by decide) z⟩
    · subst c2
      rw [e9]
      exact s_rec hW hH (qR_i (by omega) (by omega)) (fun kp' ha' hc' hn => h1 rfl kp' ha' hc' hn)
    · have e1 : x = 1 := by omega
      subst e1
      rw [e16]
      exact s_rec hW hH (qR_i (by omega) (by omega)) (fun kp' ha' hc' hn => h2 rfl kp' ha' hc' hn)
  · rw [if_neg c]
    exact ⟨by decide, fun z => absurd rfl z, fun _ => s_rec hW hH (by decide) (fun kp' ha' hc' hn => h0 c kp' ha' hc' hn)⟩
theorem a_restore_no {x : Int} {Φ : Int → Int → Int → (Nat → Int) → (Nat → Int) → (Nat → Int64) → (Nat → Int) → (Nat → Nat → Nat) → (Nat → qSt) → Prop} (hW : zV (tk, (szs, phs, ods, pis, ses), (szx, phx, odx, pix, sex), (szy, phy, ody, piy, sey))) (hH : zHk kp hc) (hx : qR x) (c : ¬ (0 ≤ x ∧ x < 2)) (h0 : ∀ kp' ha' hc', zHr (-1) kp hc (tk, (szs, phs, ods, pis, ses), (szx, phx, odx, pix, sex), (szy, phy, ody, piy, sey)) kp' hc' → Φ (-1) kp' szs phs ods pis ses ha' hc') : wp_X4_restore x kp tk szs phs ods pis ses szx phx odx pix sex szy phy ody piy sey ha hc Φ := by
  unfold wp_X4_restore wp_X2_showSnapshot wp_X1_copyFrom
  refine s_prep hW hH (s_X2_isSlot hx ?_)
  rw [if_neg c]
  exact ⟨by decide, fun z => absurd rfl z, fun _ => s_rec hW hH (by decide) (fun kp' ha' hc' hn => h0 kp' ha' hc' hn)⟩
theorem a_undo {Φ : Int → Int → (Nat → Int) → Int → (Nat → Int) → (Nat → Int) → (Nat → Int64) → (Nat → Int) → Int → (Nat → Int) → (Nat → Int) → (Nat → Int64) → (Nat → Int) → Int → (Nat → Int) → (Nat → Int) → (Nat → Int64) → (Nat → Int) → Prop} (hH : zHk kp hc) (h0 : kp = 0 → Φ (-2) kp tk szs phs ods pis ses szx phx odx pix sex szy phy ody piy sey) (h1 : 1 ≤ kp → Φ (kp - 1) (kp - 1) (qU (qU tk 0 ((hc (kp - 1).toNat).1 0)) 1 ((hc (kp - 1).toNat).1 1)) (hc (kp - 1).toNat).2.1.1 (hc (kp - 1).toNat).2.1.2.1 (hc (kp - 1).toNat).2.1.2.2.1 (hc (kp - 1).toNat).2.1.2.2.2.1 (hc (kp - 1).toNat).2.1.2.2.2.2 (hc (kp - 1).toNat).2.2.1.1 (hc (kp - 1).toNat).2.2.1.2.1 (hc (kp - 1).toNat).2.2.1.2.2.1 (hc (kp - 1).toNat).2.2.1.2.2.2.1 (hc (kp - 1).toNat).2.2.1.2.2.2.2 (hc (kp - 1).toNat).2.2.2.1 (hc (kp - 1).toNat).2.2.2.2.1 (hc (kp - 1).toNat).2.2.2.2.2.1 (hc (kp - 1).toNat).2.2.2.2.2.2.1 (hc (kp - 1).toNat).2.2.2.2.2.2.2) : wp_X4_undo kp tk szs phs ods pis ses szx phx odx pix sex szy phy ody piy sey ha hc Φ := by
  obtain ⟨hk, hh⟩ := hH
  unfold wp_X4_undo
  refine ⟨⟨(qR_i (by omega) (by omega)), (qR_i (by omega) (by omega))⟩, fun c v2 e2 => ?_, fun c => h0 (by omega)⟩
  have hw := hh (kp - 1).toNat (by omega)
  rw [e2]
  refine ⟨⟨by omega, by omega⟩, hw.2.1, hw.2.2, ?_⟩
  rintro _ rfl _ rfl _ rfl _ rfl _ rfl _ rfl _ rfl _ rfl _ rfl _ rfl _ rfl _ rfl _ rfl _ rfl _ rfl _ rfl
  exact h1 c
end ZCLS
