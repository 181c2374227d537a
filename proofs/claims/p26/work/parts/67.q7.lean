/-! P26, 7: the law, block by block, from its end -/
section ZLAW
variable {kp tl : Int} {tk : Nat → Int} {szs : Int} {phs ods : Nat → Int} {pis : Nat → Int64} {ses : Nat → Int} {szx : Int} {phx odx : Nat → Int} {pix : Nat → Int64} {sex : Nat → Int} {szy : Int} {phy ody : Nat → Int} {piy : Nat → Int64} {sey : Nat → Int} {ha : Nat → Nat → Nat} {hc : Nat → qSt}
variable {sL : Nat} {sx : Nat → Int32} {pn : Int64} {tz ts : Int} {sp rs so wa : Nat → Int}
theorem zHk_1 (hH : zHk kp hc) (hk : 1 ≤ kp) : zHk (kp - 1) hc := ⟨by have := hH.1; omega, fun i hi => hH.2 i (by omega)⟩
theorem zV_t {tk2 : Nat → Int} {c x y : qSc} (hV : zV (tk, c, x, y)) (t0 : tk2 0 = tk 0) (t1 : tk2 1 = tk 1) : zV (tk2, c, x, y) := by
  refine ⟨hV.1, ?_, ?_⟩
  · show tk2 0 = 0 ∨ tk2 0 = 1
    rw [t0]
    exact hV.2.1
  · show tk2 1 = 0 ∨ tk2 1 = 1
    rw [t1]
    exact hV.2.2
theorem a_back {kp' : Int} {tk' : Nat → Int} {szs' : Int} {phs' : Nat → Int} {ods' : Nat → Int} {pis' : Nat → Int64} {ses' : Nat → Int} {szx' : Int} {phx' : Nat → Int} {odx' : Nat → Int} {pix' : Nat → Int64} {sex' : Nat → Int} {szy' : Int} {phy' : Nat → Int} {ody' : Nat → Int} {piy' : Nat → Int64} {sey' : Nat → Int} {ha' : Nat → Nat → Nat} {hc' : Nat → qSt} {Φ : Int → Int → (Nat → Int) → Int → (Nat → Int) → (Nat → Int) → (Nat → Int64) → (Nat → Int) → Int → (Nat → Int) → (Nat → Int) → (Nat → Int64) → (Nat → Int) → Int → (Nat → Int) → (Nat → Int) → (Nat → Int64) → (Nat → Int) → Prop} (hk : 1 ≤ kp') (hH : zHk kp' hc') (e : ∃ o : qSt, hc' (kp' - 1).toNat = qCp o (tk, (szs, phs, ods, pis, ses), (szx, phx, odx, pix, sex), (szy, phy, ody, piy, sey))) (h : ∀ tk2 : Nat → Int, tk2 0 = tk 0 → tk2 1 = tk 1 → Φ (kp' - 1) (kp' - 1) tk2 szs phs ods pis ses szx phx odx pix sex szy phy ody piy sey) : wp_X4_undo kp' tk' szs' phs' ods' pis' ses' szx' phx' odx' pix' sex' szy' phy' ody' piy' sey' ha' hc' Φ := by
  obtain ⟨o, e⟩ := e
  refine a_undo hH (fun z => absurd z (by omega)) (fun _ => ?_)
  rw [e]
  exact h _ rfl rfl
theorem g_set {x y : Int} {Φ : Int → Int → (Nat → Int) → (Nat → Nat → Nat) → (Nat → qSt) → Prop} (hV : zV (tk, (szs, phs, ods, pis, ses), (szx, phx, odx, pix, sex), (szy, phy, ody, piy, sey))) (hH : zHk kp hc) (hx : 0 ≤ x ∧ x < 6) (hy : qLE x.toNat ≤ y ∧ y ≤ qMO x.toNat) (h : ∀ kp' ha' hc', zHr (ses x.toNat) kp hc (tk, (szs, phs, ods, pis, ses), (szx, phx, odx, pix, sex), (szy, phy, ody, piy, sey)) kp' hc' → zX szs phs ods pis (qU ses x.toNat y) → Φ (ses x.toNat) kp' (qU ses x.toNat y) ha' hc') : wp_X4_set x y kp tk szs phs ods pis ses szx phx odx pix sex szy phy ody piy sey ha hc Φ := by
  have hX : zX szs phs ods pis ses := hV.1
  have hl := zLM x.toNat (by omega)
  refine a_set hV hH (qR_i (by omega) (by omega)) (qR_i (by omega) (by omega)) (fun r se' kp' ha' hc' hr hn => ?_)
  have hb := zsetR_b hX.2.2.1 hr
  rcases hr with ⟨c, -, -⟩ | ⟨-, -, er, es⟩
  · exact absurd ⟨hx, hy⟩ c
  · subst er
    subst es
    exact h _ _ _ hn (zX_i hX.2.1 hb.1 hX.2.2.2)
theorem f_set {x y : Int} {Φ : Int → Int → (Nat → Int) → (Nat → Nat → Nat) → (Nat → qSt) → Prop} (hV : zV (tk, (szs, phs, ods, pis, ses), (szx, phx, odx, pix, sex), (szy, phy, ody, piy, sey))) (hH : zHk kp hc) (hx : qR x) (hy : qR y) (c : ¬ ((0 ≤ x ∧ x < 6) ∧ qLE x.toNat ≤ y ∧ y ≤ qMO x.toNat)) (h : ∀ kp' ha' hc', zHk kp' hc' → Φ (-1) kp' ses ha' hc') : wp_X4_set x y kp tk szs phs ods pis ses szx phx odx pix sex szy phy ody piy sey ha hc Φ := by
  refine a_set hV hH hx hy (fun r se' kp' ha' hc' hr hn => ?_)
  rcases hr with ⟨-, er, es⟩ | ⟨c1, c2, -, -⟩
  · subst er
    subst es
    exact h _ _ _ (zHr_H hn hH)
  · exact absurd ⟨c1, c2⟩ c
theorem f_light {x : Int} {Φ : Int → Int → Int → (Nat → Int) → (Nat → Nat → Nat) → (Nat → qSt) → Prop} (hV : zV (tk, (szs, phs, ods, pis, ses), (szx, phx, odx, pix, sex), (szy, phy, ody, piy, sey))) (hH : zHk kp hc) (hx : qR x) (c : ¬ (0 ≤ x ∧ x < 64)) (h : ∀ kp' ha' hc', zHk kp' hc' → Φ (-1) kp' szs ods ha' hc') : wp_X4_light x kp tk szs phs ods pis ses szx phx odx pix sex szy phy ody piy sey ha hc Φ := by
  refine a_light hV hH hx (fun r sz' od' kp' ha' hc' hr hn => ?_)
  rcases hr with ⟨-, er, e1, e2⟩ | ⟨c1, -⟩ | ⟨c1, -⟩ | ⟨c1, -⟩
  · subst er
    subst e1
    subst e2
    exact h _ _ _ (zHr_H hn hH)
  · exact absurd c1 c
  · exact absurd c1 c
  · exact absurd c1 c
theorem f_exch {x y : Int} {Φ : Int → Int → (Nat → Int) → (Nat → Nat → Nat) → (Nat → qSt) → Prop} (hV : zV (tk, (szs, phs, ods, pis, ses), (szx, phx, odx, pix, sex), (szy, phy, ody, piy, sey))) (hH : zHk kp hc) (hx : qR x) (hy : qR y) (c : ¬ ((0 ≤ x ∧ x < szs) ∧ 0 ≤ y ∧ y < szs)) (h : ∀ kp' ha' hc', zHk kp' hc' → Φ (-1) kp' ods ha' hc') : wp_X4_exchange x y kp tk szs phs ods pis ses szx phx odx pix sex szy phy ody piy sey ha hc Φ := by
  refine a_exchange hV hH hx hy (fun r od' kp' ha' hc' hr hn => ?_)
  rcases hr with ⟨-, er, es⟩ | ⟨c1, c2, -, -⟩
  · subst er
    subst es
    exact h _ _ _ (zHr_H hn hH)
  · exact absurd ⟨c1, c2⟩ c
theorem f_draw {x y z : Int} {Φ : Int → Int → (Nat → Int64) → (Nat → Nat → Nat) → (Nat → qSt) → Prop} (hV : zV (tk, (szs, phs, ods, pis, ses), (szx, phx, odx, pix, sex), (szy, phy, ody, piy, sey))) (hH : zHk kp hc) (hx : qR x) (hy : qR y) (hz : qR z) (c : ¬ ((0 ≤ x ∧ x < 2) ∧ (0 ≤ y ∧ y < 64) ∧ 0 ≤ z ∧ z < 2)) (h : ∀ kp' ha' hc', zHk kp' hc' → Φ (-1) kp' pis ha' hc') : wp_X4_draw x y z kp tk szs phs ods pis ses szx phx odx pix sex szy phy ody piy sey ha hc Φ := by
  refine a_draw hV hH hx hy hz (fun r pi' kp' ha' hc' hr hn => ?_)
  rcases hr with ⟨-, er, es⟩ | ⟨c1, c2, c3, -, -⟩
  · subst er
    subst es
    exact h _ _ _ (zHr_H hn hH)
  · exact absurd ⟨c1, c2, c3⟩ c
theorem L516 (hV : zV (tk, (szs, phs, ods, pis, ses), (szx, phx, odx, pix, sex), (szy, phy, ody, piy, sey))) : wp_L_law_516 sL sx kp tl pn tz ts sp rs so wa tk szs phs ods pis ses szx phx odx pix sex szy phy ody piy sey ha hc := by
  have hX : zX szs phs ods pis ses := hV.1
  unfold wp_L_law_516
  refine a_isRow hX hV.2.1 hV.2.2 ⟨by decide, fun z => absurd z (by decide), fun _ => a_isSeen hX hV.2.1 hV.2.2 ⟨by decide, fun z => absurd z (by decide), fun _ => a_t0 ⟨⟨by decide, by decide⟩, fun z => absurd rfl z, fun _ => a_t1 ⟨⟨by decide, by decide⟩, fun z => absurd rfl z, fun _ => a_t2 ⟨⟨by decide, by decide⟩, fun z => absurd rfl z, fun _ => a_t3 ⟨⟨by decide, by decide⟩, fun z => absurd rfl z, fun _ => ?_⟩⟩⟩⟩⟩⟩
  unfold wp_L_law_578
  rfl
set_option maxHeartbeats 2000000 in
theorem L450 (hV : zV (tk, (szs, phs, ods, pis, ses), (szx, phx, odx, pix, sex), (szy, phy, ody, piy, sey))) (hH : zHk kp hc) : wp_L_law_450 sL sx kp tl pn tz ts sp rs so wa tk szs phs ods pis ses szx phx odx pix sex szy phy ody piy sey ha hc := by
  have hX : zX szs phs ods pis ses := hV.1
  have ho := hX.2.1
  have hs := hX.2.2.1
  have ho1 := ho.1
  have hb := zA_b ho hs.2.1 szs.toNat (by omega)
  have hlb : ∀ se : Nat → Int, 0 ≤ zlsz szs ods se ∧ zlsz szs ods se ≤ 12 := fun se => zlsz_b ho
  unfold wp_L_law_450
  refine a_shortestPeriod ho hs ?_
  obtain ⟨P, eP⟩ : ∃ P : Int, P = zshort szs ods ses := ⟨_, rfl⟩
  have hq : P = -9 ∨ (8 ≤ P ∧ P ≤ 200 ∧ zA ods (ses 1) szs.toNat < P ∧ (8 < P → P = zA ods (ses 1) szs.toNat + 1)) := by
    rw [eP]
    unfold zshort
    by_cases c1 : 200 < zA ods (ses 1) szs.toNat + 1
    · rw [if_pos c1]
      exact Or.inl rfl
    · rw [if_neg c1]
      by_cases c2 : zA ods (ses 1) szs.toNat + 1 < 8
      · rw [if_pos c2]
        right
        omega
      · rw [if_neg c2]
        right
        omega
  rw [← eP]
  have hPq : qR P := (qR_i (by omega) (by omega))
  refine ⟨hPq, fun _ => L516 hV, fun c => ?_⟩
  obtain ⟨p1, p2, p3, p4⟩ := hq.resolve_left (by omega)
  refine g_set hV hH (by decide) ⟨p1, p2⟩ (fun kp' ha' hc' hn hX' => a_c1 hX' hV.2.1 hV.2.2 (a_c0 hX' hV.2.1 hV.2.2 ?_))
  have e0 : qU ses (0 : Int).toNat P 0 = P := rfl
  have e1 : qU ses (0 : Int).toNat P 1 = ses 1 := rfl
  have el : zlsz szs ods (qU ses (0 : Int).toNat P) = szs := zlsz_all ho (by rw [e1]; exact hs.2.1) (by rw [e1, e0]; exact p3)
  rw [el]
  have hV' : zV (tk, (szs, phs, ods, pis, qU ses (0 : Int).toNat P), (szx, phx, odx, pix, sex), (szy, phy, ody, piy, sey)) := ⟨hX', hV.2⟩
  refine ⟨⟨(qR_i (by omega) (by omega)), (qR_i (by omega) (by omega))⟩, fun _ => ⟨⟨hPq, by decide⟩, fun _ => L516 hV', fun c2 => ?_⟩, fun z => absurd rfl z⟩
  refine g_set hV' (zHr_H hn hH) (by decide) (y := P - 1) ⟨by show (8 : Int) ≤ P - 1; omega, by show P - 1 ≤ 200; omega⟩ (fun kp2 ha2 hc2 hn2 hX2 => a_c1 hX2 hV.2.1 hV.2.2 (a_c0 hX2 hV.2.1 hV.2.2 ?_))
  have g0 : qU (qU ses (0 : Int).toNat P) (0 : Int).toNat (P - 1) 0 = P - 1 := rfl
  have g1 : qU (qU ses (0 : Int).toNat P) (0 : Int).toNat (P - 1) 1 = ses 1 := rfl
  have hl2 := hlb (qU (qU ses (0 : Int).toNat P) (0 : Int).toNat (P - 1))
  have e9 := p4 (by omega)
  refine ⟨⟨(qR_i (by omega) (by omega)), (qR_i (by omega) (by omega))⟩, fun _ => L516 ⟨hX2, hV.2⟩, fun z => absurd (zlsz_less ho (by omega) (by rw [g0, g1]; omega)) z⟩
set_option maxHeartbeats 2000000 in
theorem L429 {x6 x7 : Int} (hV : zV (tk, (szs, phs, ods, pis, ses), (szx, phx, odx, pix, sex), (szy, phy, ody, piy, sey))) (hH : zHk kp hc) (h7 : 0 ≤ x7 ∧ x7 < ses 0) (h6 : x6 = zU szs phs ods pis ses x7 (ses 4)) : wp_L_law_429 sL sx x6 x7 kp tl pn tz ts sp rs so wa tk szs phs ods pis ses szx phx odx pix sex szy phy ody piy sey ha hc := by
  have hX : zX szs phs ods pis ses := hV.1
  have hs0 := hX.2.2.1.1
  have hb := zU_b szs phs ods pis ses x7 (ses 4)
  rw [← h6] at hb
  unfold wp_L_law_429
  refine g_set hV hH (by decide) ⟨h7.1, by show x7 ≤ 199; omega⟩ (fun kp' ha' hc' hn hX' => a_c7 hX' hV.2.1 hV.2.2 ?_)
  have e0 : qU ses (3 : Int).toNat x7 0 = ses 0 := rfl
  have e1 : qU ses (3 : Int).toNat x7 1 = ses 1 := rfl
  have e3 : qU ses (3 : Int).toNat x7 3 = x7 := rfl
  have e4 : qU ses (3 : Int).toNat x7 4 = ses 4 := rfl
  have e5 : qU ses (3 : Int).toNat x7 5 = ses 5 := rfl
  rw [zc7, zU_c e0 e1 e5, e3, e4, ← h6]
  exact ⟨⟨(qR_i (by omega) (by omega)), (qR_i (by omega) (by omega))⟩, fun _ => L450 ⟨hX', hV.2⟩ (zHr_H hn hH), fun z => absurd rfl z⟩
set_option maxHeartbeats 2000000 in
theorem L392 {x6 x7 : Int} (hV : zV (tk, (szs, phs, ods, pis, ses), (szx, phx, odx, pix, sex), (szy, phy, ody, piy, sey))) (hH : zHk kp hc) (h7 : 0 ≤ x7 ∧ x7 < ses 0) (h6 : x6 = zU szs phs ods pis ses x7 (ses 4)) : wp_L_law_392 sL sx x6 x7 kp tl pn tz ts sp rs so wa tk szs phs ods pis ses szx phx odx pix sex szy phy ody piy sey ha hc := by
  have hX : zX szs phs ods pis ses := hV.1
  unfold wp_L_law_392
  refine a_longest hX ?_
  obtain ⟨G, eG⟩ : ∃ G : Int, G = zlg (zU szs phs ods pis ses (ses 3)) 50 := ⟨_, rfl⟩
  have hb := zlg_b (zU szs phs ods pis ses (ses 3)) 50
  have hz := zlg_ok (zU szs phs ods pis ses (ses 3)) 50
  rw [← eG] at hb hz ⊢
  refine ⟨(qR_i (by omega) (by omega)), fun _ => L429 hV hH h7 h6, fun c => g_set hV hH (by decide) ⟨by show (1 : Int) ≤ G; omega, by show G ≤ 50; omega⟩ (fun kp' ha' hc' hn hX' => a_c7 hX' hV.2.1 hV.2.2 ?_)⟩
  have e0 : qU ses (4 : Int).toNat G 0 = ses 0 := rfl
  have e1 : qU ses (4 : Int).toNat G 1 = ses 1 := rfl
  have e3 : qU ses (4 : Int).toNat G 3 = ses 3 := rfl
  have e4 : qU ses (4 : Int).toNat G 4 = G := rfl
  have e5 : qU ses (4 : Int).toNat G 5 = ses 5 := rfl
  rw [zc7, zU_c e0 e1 e5, e3, e4, hz (by omega)]
  refine ⟨by decide, fun z => absurd rfl z, fun _ => ?_⟩
  have hH' := zHr_H hn hH
  obtain ⟨hk, -, ho9⟩ := hn.2 (zSe_b hX.2.2.1 (k := 4) (by decide)).1
  exact a_back hk.1 hH' ho9 (fun tk2 t0 t1 => ⟨(qR_i (by omega) (by omega)), fun _ => L429 (zV_t hV t0 t1) (zHk_1 hH' hk.1) h7 h6, fun z => absurd (by omega) z⟩)
set_option maxHeartbeats 2000000 in
theorem L340 (hV : zV (tk, (szs, phs, ods, pis, ses), (szx, phx, odx, pix, sex), (szy, phy, ody, piy, sey))) (hH : zHk kp hc) (hP : zPl pn tz ts so) : wp_L_law_340 sL sx kp tl pn tz ts sp rs so wa tk szs phs ods pis ses szx phx odx pix sex szy phy ody piy sey ha hc := by
  have hX : zX szs phs ods pis ses := hV.1
  have ho := hX.2.1
  have hs := hX.2.2.1
  have hs0 := hs.1
  have ho1 := ho.1
  have hle := zBS_le (sz := szs) (ph := phs) (od := ods) (pi := pis) hs
  have hbs := zBS_b (sz := szs) (ph := phs) (od := ods) (pi := pis) hs
  have b1 := zU_b szs phs ods pis ses (zBS szs phs ods pis ses) (ses 4)
  have b2 := zU_b szs phs ods pis ses (ses 3) (ses 4)
  unfold wp_L_law_340
  refine a_b1 hX (fun g1 => a_b0 hX (fun g2 => a_c7 hX hV.2.1 hV.2.2 ?_))
  rw [zc7]
  refine ⟨⟨(qR_i (by omega) (by omega)), (qR_i (by omega) (by omega))⟩, fun z => absurd z (by omega), fun _ => a_c13 hX hV.2.1 hV.2.2 ⟨⟨(qR_i (by omega) (by omega)), (qR_i (by omega) (by omega))⟩, fun z => absurd z (by omega), fun _ => ?_⟩⟩
  obtain ⟨t, et⟩ := Int.eq_ofNat_of_zero_le ho1.1
  subst et
  have hT := zT_all ho
  have bT := (zlt_q (x := 0) ho).1
  have bS := zS_b ho t (by omega)
  refine s_X4_leastTravel ho hP (by decide) (fun z => absurd z (by decide)) (fun _ pn' tz' ts' sp' rs' so' _ => ?_)
  rw [if_pos rfl]
  refine a_c8 hX hV.2.1 hV.2.2 ?_
  rw [Int.toNat_natCast]
  exact ⟨⟨bT, (qR_i (by omega) (by omega))⟩, fun _ => L392 hV hH hbs rfl, fun z => absurd hT z⟩
set_option maxHeartbeats 2000000 in
theorem L240 (hV : zV (tk, (szs, phs, ods, pis, ses), (szx, phx, odx, pix, sex), (szy, phy, ody, piy, sey))) (hH : zHk kp hc) (hP : zPl pn tz ts so) : wp_L_law_240 sL sx kp tl pn tz ts sp rs so wa tk szs phs ods pis ses szx phx odx pix sex szy phy ody piy sey ha hc := by
  have hX : zX szs phs ods pis ses := hV.1
  have ho := hX.2.1
  have ho1 := ho.1
  unfold wp_L_law_240
  refine a_digest hX hV.2.1 hV.2.2 (f_set hV hH (by decide) (by decide) (by decide) (fun kp1 ha1 hc1 hH1 => ⟨⟨by decide, by decide⟩, fun z => absurd rfl z, fun _ => ?_⟩))
  refine f_set hV hH1 (by decide) (by decide) (by decide) (fun kp2 ha2 hc2 hH2 => ⟨⟨by decide, by decide⟩, fun z => absurd rfl z, fun _ => ?_⟩)
  refine f_light hV hH2 (by decide) (by decide) (fun kp3 ha3 hc3 hH3 => ⟨⟨by decide, by decide⟩, fun z => absurd rfl z, fun _ => ?_⟩)
  refine f_exch hV hH3 (by decide) (by decide) (by omega) (fun kp4 ha4 hc4 hH4 => ⟨⟨by decide, by decide⟩, fun z => absurd rfl z, fun _ => ?_⟩)
  refine f_draw hV hH4 (by decide) (by decide) (by decide) (by decide) (fun kp5 ha5 hc5 hH5 => ⟨⟨by decide, by decide⟩, fun z => absurd rfl z, fun _ => ?_⟩)
  refine a_restore_no hV hH5 (by decide) (by decide) (fun kp6 ha6 hc6 hn6 => ⟨⟨by decide, by decide⟩, fun z => absurd rfl z, fun _ => ?_⟩)
  refine a_t00 ⟨⟨by decide, by decide⟩, fun z => absurd rfl z, fun _ => a_at_no ho ⟨⟨by decide, by decide⟩, fun z => absurd rfl z, fun _ => a_digest hX hV.2.1 hV.2.2 (fun v e => ?_)⟩⟩
  rw [qlcmp_s] at e
  subst e
  exact ⟨by decide, fun _ => L340 hV (zHr_H hn6 hH5) hP, fun z => absurd rfl z⟩
theorem L206 {x2 k0 : Int} (hV : zV (tk, (szs, phs, ods, pis, ses), (szx, phx, odx, pix, sex), (szy, phy, ody, piy, sey))) (hH : zHk kp hc) (hP : zPl pn tz ts so) (hk : 0 ≤ k0 ∧ k0 < 64) : wp_L_law_206 sL sx x2 k0 kp tl pn tz ts sp rs so wa tk szs phs ods pis ses szx phx odx pix sex szy phy ody piy sey ha hc := by
  have hX : zX szs phs ods pis ses := hV.1
  unfold wp_L_law_206
  refine a_isSeen hX hV.2.1 hV.2.2 ⟨by decide, fun z => absurd z (by decide), fun _ => a_isMean hX hV.2.1 hV.2.2 hk ⟨by decide, fun z => absurd z (by decide), fun _ v e => ?_⟩⟩
  subst e
  refine s_low (by decide) (a_isMean hX hV.2.1 hV.2.2 (zlw_b (by decide)) ⟨by decide, fun _ => L240 hV hH hP, fun z => absurd (by decide) z⟩)
theorem L179 {x2 : Int} (hV : zV (tk, (szs, phs, ods, pis, ses), (szx, phx, odx, pix, sex), (szy, phy, ody, piy, sey))) (hH : zHk kp hc) (hP : zPl pn tz ts so) : wp_L_law_179 sL sx x2 kp tl pn tz ts sp rs so wa tk szs phs ods pis ses szx phx odx pix sex szy phy ody piy sey ha hc := by
  have hX : zX szs phs ods pis ses := hV.1
  have ho := hX.2.1
  have ho1 := ho.1
  unfold wp_L_law_179
  refine a_c0 hX hV.2.1 hV.2.2 ⟨(qR_i (by omega) (by omega)), fun _ => L206 hV hH hP (by decide), fun c v e => ?_⟩
  subst e
  have b := zlw_b (v := qshr x2 4) (n := szs) (by omega)
  have b2 := ho.2.1 (zlw (qshr x2 4) szs).toNat (by omega)
  exact a_c0 hX hV.2.1 hV.2.2 (s_low ⟨by omega, by omega⟩ (a_at_in ho b (L206 hV hH hP b2)))
section ZLOOP
variable {K : Int → Int → (Nat → Int) → Int → (Nat → Int) → (Nat → Int) → (Nat → Int64) → (Nat → Int) → Int → (Nat → Int) → (Nat → Int) → (Nat → Int64) → (Nat → Int) → Int → (Nat → Int) → (Nat → Int) → (Nat → Int64) → (Nat → Int) → (Nat → Nat → Nat) → (Nat → qSt) → Prop} {x2 x3 : Int}
theorem L164 (hV : zV (tk, (szs, phs, ods, pis, ses), (szx, phx, odx, pix, sex), (szy, phy, ody, piy, sey))) (hH : zHk kp hc) (hK : K (x3 + 1) kp tk szs phs ods pis ses szx phx odx pix sex szy phy ody piy sey ha hc) : wp_L_law_164 sL sx K x2 x3 kp tl pn tz ts sp rs so wa tk szs phs ods pis ses szx phx odx pix sex szy phy ody piy sey ha hc := by
  have hX : zX szs phs ods pis ses := hV.1
  unfold wp_L_law_164
  refine a_isRow hX hV.2.1 hV.2.2 ⟨by decide, fun _ v e => ?_, fun z => absurd (by decide) z⟩
  subst e
  exact hK
theorem L144 {x4 x7 : Int} (hV : zV (tk, (szs, phs, ods, pis, ses), (szx, phx, odx, pix, sex), (szy, phy, ody, piy, sey))) (hH : zHk kp hc) (hs : qand x4 15 = 9 → szs = x7) (h7 : qR x7) (hK : K (x3 + 1) kp tk szs phs ods pis ses szx phx odx pix sex szy phy ody piy sey ha hc) : wp_L_law_144 sL sx K x2 x3 x4 x7 kp tl pn tz ts sp rs so wa tk szs phs ods pis ses szx phx odx pix sex szy phy ody piy sey ha hc := by
  have hX : zX szs phs ods pis ses := hV.1
  have ho1 := hX.2.1.1
  unfold wp_L_law_144
  intro v e
  have hv : qR v := by
    rw [e]
    exact qR_of _
  exact ⟨⟨hv, by decide⟩, fun _ => L164 hV hH hK, fun z => a_c0 hX hV.2.1 hV.2.2 ⟨⟨(qR_i (by omega) (by omega)), h7⟩, fun z2 => absurd (hs (by omega)) z2, fun _ => L164 hV hH hK⟩⟩
set_option maxHeartbeats 2000000 in
theorem L104 {x4 kp' : Int} {tk' : Nat → Int} {szs' : Int} {phs' : Nat → Int} {ods' : Nat → Int} {pis' : Nat → Int64} {ses' : Nat → Int} {szx' : Int} {phx' : Nat → Int} {odx' : Nat → Int} {pix' : Nat → Int64} {sex' : Nat → Int} {szy' : Int} {phy' : Nat → Int} {ody' : Nat → Int} {piy' : Nat → Int64} {sey' : Nat → Int} {ha' : Nat → Nat → Nat} {hc' : Nat → qSt} (hV : zV (tk, (szs, phs, ods, pis, ses), (szx, phx, odx, pix, sex), (szy, phy, ody, piy, sey))) (hH : zHk kp hc) (hout : zOut x4 kp hc (tk, (szs, phs, ods, pis, ses), (szx, phx, odx, pix, sex), (szy, phy, ody, piy, sey)) (tk', (szs', phs', ods', pis', ses'), (szx', phx', odx', pix', sex'), (szy', phy', ody', piy', sey')) kp' hc') (hK : ∀ kp tk szs phs ods pis ses szx phx odx pix sex szy phy ody piy sey ha hc, zV (tk, (szs, phs, ods, pis, ses), (szx, phx, odx, pix, sex), (szy, phy, ody, piy, sey)) → zHk kp hc → K (x3 + 1) kp tk szs phs ods pis ses szx phx odx pix sex szy phy ody piy sey ha hc) : wp_L_law_104 sL sx K x2 x3 x4 (zdig tk szs phs ods pis ses) szs (zactV x4 szs phs ods pis ses) kp' tl pn tz ts sp rs so wa tk' szs' phs' ods' pis' ses' szx' phx' odx' pix' sex' szy' phy' ody' piy' sey' ha' hc' := by
  have hX : zX szs phs ods pis ses := hV.1
  have ho1 := hX.2.1.1
  obtain ⟨o1, o2, o3, o4, o5⟩ := hout
  have o5 : -3 ≤ zactV x4 szs phs ods pis ses ∧ zactV x4 szs phs ods pis ses ≤ 200 := o5
  have hH' := zHr_H o2 hH
  have h144 : wp_L_law_144 sL sx K x2 x3 x4 szs kp' tl pn tz ts sp rs so wa tk' szs' phs' ods' pis' ses' szx' phx' odx' pix' sex' szy' phy' ody' piy' sey' ha' hc' := L144 o1 hH' o4 (qR_i (by omega) (by omega)) (hK _ _ _ _ _ _ _ _ _ _ _ _ _ _ _ _ _ _ _ o1 hH')
  unfold wp_L_law_104
  refine ⟨(qR_i (by omega) (by omega)), fun _ => h144, fun c v e => ?_⟩
  have hv : qR v := by
    rw [e]
    exact qR_of _
  refine ⟨⟨hv, by decide⟩, fun _ => h144, fun _ => ?_⟩
  obtain ⟨hk, -, ho9⟩ := o2.2 (by show 0 ≤ zactV x4 szs phs ods pis ses; omega)
  refine a_back hk.1 hH' ho9 (fun tk2 t0 t1 => ?_)
  have hV2 := zV_t hV t0 t1
  have hH2 := zHk_1 hH' hk.1
  refine a_digest hX hV2.2.1 hV2.2.2 (fun w ew => ?_)
  rw [zdig_c t0 t1, qlcmp_s] at ew
  subst ew
  refine ⟨by decide, fun z => absurd rfl z, fun _ => a_act hV2 hH2 (fun kp3 tk3 szs3 phs3 ods3 pis3 ses3 szx3 phx3 odx3 pix3 sex3 szy3 phy3 ody3 piy3 sey3 ha3 hc3 hout3 => ⟨⟨(qR_i (by omega) (by omega)), (qR_i (by omega) (by omega))⟩, fun _ => ?_, fun z => absurd rfl z⟩)⟩
  obtain ⟨q1, q2, q3, q4, q5⟩ := hout3
  have hH3 := zHr_H q2 hH2
  exact L144 q1 hH3 q4 (qR_i (by omega) (by omega)) (hK _ _ _ _ _ _ _ _ _ _ _ _ _ _ _ _ _ _ _ q1 hH3)
end ZLOOP
set_option maxHeartbeats 2000000 in
theorem L53 {x2 : Int} (hP : zPl pn tz ts so) : ∀ (m : Nat) (x3 : Int), (1 ≤ x3 ∧ x3 ≤ 18) → 18 - x3 ≤ m → ∀ kp tk szs phs ods pis ses szx phx odx pix sex szy phy ody piy sey ha hc, zV (tk, (szs, phs, ods, pis, ses), (szx, phx, odx, pix, sex), (szy, phy, ody, piy, sey)) → zHk kp hc → wp_L_law_53 sL sx x2 tl pn tz ts sp rs so wa (m + 1) x3 kp tk szs phs ods pis ses szx phx odx pix sex szy phy ody piy sey ha hc := by
  intro m
  induction m with
  | zero =>
    intro x3 h1 h2 kp tk szs phs ods pis ses szx phx odx pix sex szy phy ody piy sey ha hc hV hH
    unfold wp_L_law_53
    exact ⟨⟨(qR_i (by omega) (by omega)), (qR_i (by omega) (by omega))⟩, fun _ => L179 hV hH hP, fun c => absurd (by omega) c⟩
  | succ m ih =>
    intro x3 h1 h2 kp tk szs phs ods pis ses szx phx odx pix sex szy phy ody piy sey ha hc hV hH
    have hX : zX szs phs ods pis ses := hV.1
    unfold wp_L_law_53
    refine ⟨⟨(qR_i (by omega) (by omega)), (qR_i (by omega) (by omega))⟩, fun _ => L179 hV hH hP, fun c => ⟨⟨by omega, by omega⟩, fun r e => a_digest hX hV.2.1 hV.2.2 (a_c0 hX hV.2.1 hV.2.2 (a_act hV hH (fun kp' tk' szs' phs' ods' pis' ses' szx' phx' odx' pix' sex' szy' phy' ody' piy' sey' ha' hc' hout => ?_)))⟩⟩
    have o5 : -3 ≤ zactV r szs phs ods pis ses ∧ zactV r szs phs ods pis ses ≤ 200 := hout.2.2.2.2
    have h104 := L104 (sL := sL) (sx := sx) (tl := tl) (pn := pn) (tz := tz) (ts := ts) (sp := sp) (rs := rs) (so := so) (wa := wa) (x2 := x2) (ha' := ha') (K := wp_L_law_53 sL sx x2 tl pn tz ts sp rs so wa (m + 1)) hV hH hout (fun kp tk szs phs ods pis ses szx phx odx pix sex szy phy ody piy sey ha hc hV9 hH9 => ih (x3 + 1) (by omega) (by omega) kp tk szs phs ods pis ses szx phx odx pix sex szy phy ody piy sey ha hc hV9 hH9)
    refine ⟨(qR_i (by omega) (by omega)), fun _ => h104, fun c2 => ?_⟩
    have hst := hout.2.2.1 (by show zactV r szs phs ods pis ses < 0; omega)
    simp only [Prod.mk.injEq] at hst
    obtain ⟨e1, ⟨e2, e3, e4, e5, e6⟩, -, -⟩ := hst
    have hX' : zX szs' phs' ods' pis' ses' := hout.1.1
    refine a_digest hX' hout.1.2.1 hout.1.2.2 (fun w ew => ?_)
    rw [e1, e2, e3, e4, e5, e6, qlcmp_s] at ew
    subst ew
    exact ⟨by decide, fun _ => h104, fun z => absurd rfl z⟩
theorem L_law (hV : zV (tk, (szs, phs, ods, pis, ses), (szx, phx, odx, pix, sex), (szy, phy, ody, piy, sey))) (hH : zHk kp hc) (hP : zPl pn tz ts so) : wp_L_law sL sx kp tl pn tz ts sp rs so wa tk szs phs ods pis ses szx phx odx pix sex szy phy ody piy sey ha hc := by
  have hX : zX szs phs ods pis ses := hV.1
  unfold wp_L_law
  refine ⟨by decide, fun r e => s_low (by decide) ?_⟩
  have b := zlw_b (v := r) (n := 64) (by decide)
  refine a_light hV hH (qR_i (by omega) (by omega)) (fun r1 sz1 od1 kp1 ha1 hc1 hr1 hn1 => s_low (by decide) (fun w ew => s_low (by decide) ?_))
  have b2 := zlw_b (v := w) (n := 63) (by decide)
  refine ⟨⟨⟨by omega, by omega⟩, by decide, by decide⟩, fun v ev => ?_⟩
  have hv : 0 ≤ v ∧ v < 64 := by
    rw [ev]
    exact ⟨Int.emod_nonneg _ (by decide), Int.emod_lt_of_pos _ (by decide)⟩
  have hX1 : zX sz1 phs od1 pis ses := zX_i (zlightR_b hX.2.1 hr1).1 hX.2.2.1 hX.2.2.2
  have hV1 : zV (tk, (sz1, phs, od1, pis, ses), (szx, phx, odx, pix, sex), (szy, phy, ody, piy, sey)) := ⟨hX1, hV.2⟩
  have hH1 := zHr_H hn1 hH
  refine a_light hV1 hH1 (qR_i (by omega) (by omega)) (fun r2 sz2 od2 kp2 ha2 hc2 hr2 hn2 => ⟨18, ?_⟩)
  have hX2 : zX sz2 phs od2 pis ses := zX_i (zlightR_b hX1.2.1 hr2).1 hX.2.2.1 hX.2.2.2
  exact L53 hP 17 1 (by decide) (by decide) _ _ _ _ _ _ _ _ _ _ _ _ _ _ _ _ _ _ _ ⟨hX2, hV.2⟩ (zHr_H hn2 hH1)
end ZLAW
