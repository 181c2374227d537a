/-! PURE 25: states on both sides, and the history -/
def zGs (ms : Nat → Int) (c : qSc) : Prop := zG ms c.1 c.2.1 c.2.2.1 c.2.2.2.1 c.2.2.2.2
/-- the model's cells hold a state -/
def zW (ms : Nat → Int) (st : qSt) : Prop := zGs ms st.2.1 ∧ (ms 211 = st.1 0 ∧ (st.1 0 = 0 ∨ st.1 0 = 1)) ∧ (ms 423 = st.1 1 ∧ (st.1 1 = 0 ∨ st.1 1 = 1)) ∧ (st.1 0 = 1 → zGs (fun k => ms (212 + k)) st.2.2.1) ∧ (st.1 1 = 1 → zGs (fun k => ms (424 + k)) st.2.2.2)
theorem zW_c {ms g : Nat → Int} {st st' : qSt} (h : zW ms st) (hg : ∀ k : Nat, k < 635 → g k = ms k) (h2 : st'.2 = st.2) (h0 : st'.1 0 = st.1 0) (h1 : st'.1 1 = st.1 1) : zW g st' := by
  obtain ⟨a, ⟨b1, b2⟩, ⟨c1, c2⟩, d, e⟩ := h
  unfold zW
  rw [h2, h0, h1, hg 211 (by omega), hg 423 (by omega)]
  exact ⟨zG_c (fun k hk => hg k (by omega)) a, ⟨b1, b2⟩, ⟨c1, c2⟩, fun z => zG_c (fun k hk => hg (212 + k) (by omega)) (d z), fun z => zG_c (fun k hk => hg (424 + k) (by omega)) (e z)⟩
/-- another screen in the state -/
theorem zW_s {ms g tk : Nat → Int} {c c' x y : qSc} (h : zW ms (tk, c, x, y)) (hg : zGs g c') (hf : ∀ k : Nat, 211 ≤ k → k < 635 → g k = ms k) : zW g (tk, c', x, y) := by
  obtain ⟨a, ⟨b1, b2⟩, ⟨c1, c2⟩, d, e⟩ := h
  refine ⟨hg, ⟨(hf 211 (by omega) (by omega)).trans b1, b2⟩, ⟨(hf 423 (by omega) (by omega)).trans c1, c2⟩, fun z => ?_, fun z => ?_⟩
  · exact zG_c (fun k hk => hf (212 + k) (by omega) (by omega)) (d z)
  · exact zG_c (fun k hk => hf (424 + k) (by omega) (by omega)) (e z)
/-- the history on both sides -/
def zH (sm kp : Int) (mv : Nat → Int) (hc : Nat → qSt) : Prop := sm = kp ∧ (0 ≤ kp ∧ kp ≤ 5) ∧ ∀ i : Nat, (i : Int) < kp → zW (fun k => mv (635 * i + k)) (hc i)
/-- the history behind an action that answered r -/
def zHn (r sm : Int) (ms mv : Nat → Int) (kp' : Int) (hc' : Nat → qSt) : Prop := (r < 0 → zH sm kp' mv hc') ∧ (0 ≤ r → ∀ (sm' : Int) (gv : Nat → Int), zAct sm ms mv sm' gv → zH sm' kp' gv hc')
theorem qUh_a (f : Nat → qSt) (k : Nat) (x : qSt) (j : Nat) : qUh f k x j = if j = k then x else f j := rfl
theorem qCp_W {ms g : Nat → Int} {o st : qSt} (h : zW ms st) (hg : ∀ k : Nat, k < 635 → g k = ms k) : zW g (qCp o st) := zW_c h hg rfl rfl rfl
theorem s_rec {kp sm r : Int} {ms mv : Nat → Int} {ha : Nat → Nat → Nat} {hc : Nat → qSt} {st : qSt} {Φ : Int → Int → (Nat → Nat → Nat) → (Nat → qSt) → Prop} (hW : zW ms st) (hH : zH sm kp mv hc) (hr : qR r) (h : ∀ kp' ha' hc', zHn r sm ms mv kp' hc' → Φ r kp' ha' hc') : wp_X4_finish r kp ha (qUh hc kp.toNat (qCp (hc kp.toNat) st)) Φ := by
  obtain ⟨rfl, hk, hh⟩ := hH
  unfold wp_X4_finish wp_X4_dropOldest wp_X4_finish_29
  have keep : zH sm sm mv (qUh hc sm.toNat (qCp (hc sm.toNat) st)) := ⟨rfl, hk, fun i hi => by
    rw [qUh_a, if_neg (by omega)]
    exact hh i hi⟩
  refine ⟨hr, fun c => h _ _ _ ⟨fun _ => keep, fun z => absurd z (by omega)⟩, fun c => ⟨⟨(qR_i (by omega) (by omega)), (qR_i (by omega) (by omega))⟩, fun c2 => h _ _ _ ⟨fun z => absurd z c, fun _ sm' gv hact => ?_⟩, fun c2 v6 e6 => h _ _ _ ⟨fun z => absurd z c, fun _ sm' gv hact => ?_⟩⟩⟩
  · obtain ⟨a1, a2⟩ := hact
    have e5 : sm = 5 := by omega
    subst e5
    rw [if_pos rfl] at a1
    subst a1
    refine ⟨rfl, by decide, fun i hi => ?_⟩
    unfold qRot
    rw [if_neg (by omega), qUh_a]
    by_cases z : i = 4
    · subst z
      rw [if_pos (by decide)]
      exact qCp_W hW (fun k hk => by rw [a2 4 k (by decide) hk, if_pos (by decide)])
    · rw [if_neg (by omega)]
      exact zW_c (hh (i + 1) (by omega)) (fun k hk => by rw [a2 i k hi hk, if_neg (by omega), if_pos rfl]) rfl rfl rfl
  · obtain ⟨a1, a2⟩ := hact
    rw [if_neg (by omega)] at a1
    subst a1
    refine ⟨e6.symm, by omega, fun i hi => ?_⟩
    rw [qUh_a]
    by_cases z : i = sm.toNat
    · subst z
      rw [if_pos rfl]
      exact qCp_W hW (fun k hk => by rw [a2 _ k (by omega) hk, if_pos (by omega)])
    · rw [if_neg z]
      exact zW_c (hh i (by omega)) (fun k hk => by rw [a2 i k (by omega) hk, if_neg (by omega), if_neg (by omega)]) rfl rfl rfl
/-- the settings' bounds -/
def zsetR (x y : Int) (se : Nat → Int) (r : Int) (se' : Nat → Int) : Prop := (¬ ((0 ≤ x ∧ x < 6) ∧ qLE x.toNat ≤ y ∧ y ≤ qMO x.toNat) ∧ r = -1 ∧ se' = se) ∨ ((0 ≤ x ∧ x < 6) ∧ (qLE x.toNat ≤ y ∧ y ≤ qMO x.toNat) ∧ r = se x.toNat ∧ se' = qU se x.toNat y)
theorem zLM : ∀ k : Nat, k < 6 → (0 ≤ qLE k ∧ qLE k ≤ 8) ∧ (4 ≤ qMO k ∧ qMO k ≤ 200) := by decide +kernel
theorem zSe_b {se : Nat → Int} (hs : zSe se) {k : Nat} (hk : k < 6) : 0 ≤ se k ∧ se k ≤ 200 := by
  obtain ⟨h0, h1, h2, h3, h4, h5⟩ := hs
  rcases (show k = 0 ∨ k = 1 ∨ k = 2 ∨ k = 3 ∨ k = 4 ∨ k = 5 by omega) with rfl | rfl | rfl | rfl | rfl | rfl <;> omega
theorem zsetR_b {x y r : Int} {se se' : Nat → Int} (hs : zSe se) (h : zsetR x y se r se') : zSe se' ∧ -3 ≤ r ∧ r ≤ 200 := by
  rcases h with ⟨c, rfl, rfl⟩ | ⟨c, d, rfl, rfl⟩
  · exact ⟨hs, by decide, by decide⟩
  · have hb := zSe_b hs (k := x.toNat) (by omega)
    refine ⟨?_, by omega, by omega⟩
    obtain ⟨h0, h1, h2, h3, h4, h5⟩ := hs
    unfold zSe
    rcases (show x = 0 ∨ x = 1 ∨ x = 2 ∨ x = 3 ∨ x = 4 ∨ x = 5 by omega) with rfl | rfl | rfl | rfl | rfl | rfl
    · have d1 : 8 ≤ y ∧ y ≤ 200 := d
      exact ⟨d1, h1, h2, h3, h4, h5⟩
    · have d1 : 1 ≤ y ∧ y ≤ 4 := d
      exact ⟨h0, d1, h2, h3, h4, h5⟩
    · have d1 : 1 ≤ y ∧ y ≤ 100 := d
      exact ⟨h0, h1, d1, h3, h4, h5⟩
    · have d1 : 0 ≤ y ∧ y ≤ 199 := d
      exact ⟨h0, h1, h2, d1, h4, h5⟩
    · have d1 : 1 ≤ y ∧ y ≤ 50 := d
      exact ⟨h0, h1, h2, h3, d1, h5⟩
    · have d1 : 1 ≤ y ∧ y ≤ 100 := d
      exact ⟨h0, h1, h2, h3, h4, d1⟩
theorem t_X1_putSetting {x y : Int} {se : Nat → Int} {Φ : Int → (Nat → Int) → Prop} (hx : qR x) (hy : qR y) (h : ∀ r se', zsetR x y se r se' → Φ r se') : wp_X1_putSetting x y se Φ := by
  unfold wp_X1_putSetting wp_X1_putSetting_28
  refine ⟨hx, fun c => h _ _ (Or.inl ⟨by omega, rfl, rfl⟩), fun c => ⟨⟨hx, by decide⟩, fun c2 => h _ _ (Or.inl ⟨by omega, rfl, rfl⟩), fun c2 => ⟨⟨by omega, by omega⟩, fun v3 e3 => ?_⟩⟩⟩
  have hb := zLM x.toNat (by omega)
  rw [e3]
  refine ⟨⟨hy, (qR_i (by omega) (by omega))⟩, fun c3 => h _ _ (Or.inl ⟨by omega, rfl, rfl⟩), fun c3 => ⟨⟨by omega, by omega⟩, fun v5 e5 => ?_⟩⟩
  rw [e5]
  refine ⟨⟨hy, (qR_i (by omega) (by omega))⟩, fun c4 => ⟨⟨by omega, by omega⟩, fun v7 e7 => ⟨⟨by omega, by omega⟩, fun g8 e8 => ?_⟩⟩, fun c4 => h _ _ (Or.inl ⟨by omega, rfl, rfl⟩)⟩
  rw [e7, e8]
  exact h _ _ (Or.inr ⟨by omega, by omega, rfl, rfl⟩)
theorem s_X5_leastOf {x : Int} {Φ : Int → Prop} (hx : 0 ≤ x ∧ x < 6) (h : Φ (qLE x.toNat)) : wp_X5_leastOf x Φ := by
  unfold wp_X5_leastOf wp_X5_leastOf_19
  rcases (show x = 0 ∨ x = 1 ∨ x = 2 ∨ x = 3 ∨ x = 4 ∨ x = 5 by omega) with rfl | rfl | rfl | rfl | rfl | rfl
  · exact ⟨by decide, fun z => absurd rfl z, fun _ => h⟩
  · exact ⟨by decide, fun _ => ⟨by decide, fun _ => h, fun z => absurd (by decide) z⟩, fun z => absurd (by decide) z⟩
  · exact ⟨by decide, fun _ => ⟨by decide, fun _ => h, fun z => absurd (by decide) z⟩, fun z => absurd (by decide) z⟩
  · exact ⟨by decide, fun _ => ⟨by decide, fun z => absurd rfl z, fun _ => h⟩, fun z => absurd (by decide) z⟩
  · exact ⟨by decide, fun _ => ⟨by decide, fun _ => h, fun z => absurd (by decide) z⟩, fun z => absurd (by decide) z⟩
  · exact ⟨by decide, fun _ => ⟨by decide, fun _ => h, fun z => absurd (by decide) z⟩, fun z => absurd (by decide) z⟩
theorem s_X5_mostOf {x : Int} {Φ : Int → Prop} (hx : 0 ≤ x ∧ x < 6) (h : Φ (qMO x.toNat)) : wp_X5_mostOf x Φ := by
  unfold wp_X5_mostOf wp_X5_mostOf_42
  rcases (show x = 0 ∨ x = 1 ∨ x = 2 ∨ x = 3 ∨ x = 4 ∨ x = 5 by omega) with rfl | rfl | rfl | rfl | rfl | rfl
  · exact ⟨by decide, fun z => absurd rfl z, fun _ => h⟩
  · exact ⟨by decide, fun _ => ⟨by decide, fun z => absurd rfl z, fun _ => h⟩, fun z => absurd (by decide) z⟩
  · exact ⟨by decide, fun _ => ⟨by decide, fun _ => ⟨by decide, fun _ => ⟨by decide, fun _ => h, fun z => absurd (by decide) z⟩, fun z => absurd (by decide) z⟩, fun z => absurd (by decide) z⟩, fun z => absurd (by decide) z⟩
  · exact ⟨by decide, fun _ => ⟨by decide, fun _ => ⟨by decide, fun z => absurd rfl z, fun _ => h⟩, fun z => absurd (by decide) z⟩, fun z => absurd (by decide) z⟩
  · exact ⟨by decide, fun _ => ⟨by decide, fun _ => ⟨by decide, fun _ => ⟨by decide, fun z => absurd rfl z, fun _ => h⟩, fun z => absurd (by decide) z⟩, fun z => absurd (by decide) z⟩, fun z => absurd (by decide) z⟩
  · exact ⟨by decide, fun _ => ⟨by decide, fun _ => ⟨by decide, fun _ => ⟨by decide, fun _ => h, fun z => absurd (by decide) z⟩, fun z => absurd (by decide) z⟩, fun z => absurd (by decide) z⟩, fun z => absurd (by decide) z⟩
section ZACT
variable {th sm : Int} {ms mv ml : Nat → Int} {sz : Int} {ph od : Nat → Int} {pi : Nat → Int64} {se : Nat → Int} {r : Int}
theorem m_set {x y : Int} {se' : Nat → Int} {Φ : Int → Int → Int → (Nat → Int) → (Nat → Int) → Prop} (hG : zG ms sz ph od pi se) (hs : 0 ≤ sm ∧ sm ≤ 5) (hx : qR x) (hy : qR y) (hr : zsetR x y se r se') (h1 : r < 0 → Φ r 0 sm ms mv) (h2 : 0 ≤ r → ∀ sm' g gv, zAct sm ms mv sm' gv → zG g sz ph od pi se' → zFr ms g → Φ r 0 sm' g gv) : wp_X5_set x y th sm ms mv Φ := by
  have hb := zsetR_b hG.2.2.1 hr
  unfold wp_X5_set wp_X5_set_29
  refine s_X5_in hx (by decide) (by decide) ?_
  by_cases c : 0 ≤ x ∧ x ≤ 5
  · rw [if_pos c]
    refine ⟨by decide, fun z => absurd z (by decide), fun _ => s_X5_leastOf ⟨by omega, by omega⟩ (s_X5_mostOf ⟨by omega, by omega⟩ ?_)⟩
    have hlm := zLM x.toNat (by omega)
    refine s_X5_in hy (qR_i (by omega) (by omega)) (qR_i (by omega) (by omega)) ?_
    by_cases d : qLE x.toNat ≤ y ∧ y ≤ qMO x.toNat
    · rw [if_pos d]
      rcases hr with ⟨c2, -⟩ | ⟨c2, d2, e1, e2⟩
      · exact absurd ⟨⟨by omega, by omega⟩, d⟩ c2
      · have hsb := zSe_b hG.2.2.1 (k := x.toNat) (by omega)
        refine ⟨by decide, fun _ => s_X5_act hs (fun sm' gv hact => ⟨⟨by omega, by omega⟩, fun v10 e10 => ⟨⟨by omega, by omega⟩, fun g11 e11 => ?_⟩⟩), fun z => absurd (by decide) z⟩
        rw [e10, zR_se hG.1 ⟨by omega, by omega⟩, ← e1]
        refine h2 (by omega) sm' g11 gv hact ⟨?_, hG.2.1, hb.1, hG.2.2.2⟩ ?_
        · rw [e11, e2]
          exact zR_use hG.1 ⟨by omega, by omega⟩
        · rw [e11]
          exact zFr_u (fun k _ => rfl) ⟨by omega, by omega⟩
    · rw [if_neg d]
      rcases hr with ⟨c2, e1, e2⟩ | ⟨c2, d2, e1, e2⟩
      · rw [← e1]
        exact ⟨by decide, fun z => absurd rfl z, fun _ => h1 (by omega)⟩
      · exact absurd d2 d
  · rw [if_neg c]
    rcases hr with ⟨c2, e1, e2⟩ | ⟨c2, d2, e1, e2⟩
    · rw [← e1]
      exact ⟨by decide, fun _ => h1 (by omega), fun z => absurd rfl z⟩
    · exact absurd ⟨c2.1, by omega⟩ c
theorem m_setPhosphor {x y : Int} {ph' : Nat → Int} {Φ : Int → Int → Int → (Nat → Int) → (Nat → Int) → Prop} (hG : zG ms sz ph od pi se) (hs : 0 ≤ sm ∧ sm ≤ 5) (hx : qR x) (hy : qR y) (hr : zkindR x y ph r ph') (h1 : r < 0 → Φ r 0 sm ms mv) (h2 : 0 ≤ r → ∀ sm' g gv, zAct sm ms mv sm' gv → zG g sz ph' od pi se → zFr ms g → Φ r 0 sm' g gv) : wp_X5_setPhosphor x y th sm ms mv Φ := by
  have hb := zkindR_b hG.2.2.2 hr
  unfold wp_X5_setPhosphor
  exact t_X5_kindCode hx hy hG.2.2.2 hr (fun c => ⟨(qR_i (by omega) (by omega)), fun z => absurd z (by omega), fun _ => h1 c⟩) (fun c => ⟨by decide, fun _ => s_X5_act hs (fun sm' gv hact => t_X5_kindNow hG hr c (fun g hg hf => h2 c sm' g gv hact hg hf)), fun z => absurd (by decide) z⟩)
theorem m_light {x sz' : Int} {od' : Nat → Int} {Φ : Int → Int → Int → (Nat → Int) → (Nat → Int) → Prop} (hG : zG ms sz ph od pi se) (hs : 0 ≤ sm ∧ sm ≤ 5) (hx : qR x) (hr : zlightR x sz od r sz' od') (h1 : r < 0 → Φ r 0 sm ms mv) (h2 : 0 ≤ r → ∀ sm' g gv, zAct sm ms mv sm' gv → zG g sz' ph od' pi se → zFr ms g → Φ r 0 sm' g gv) : wp_X5_light x th sm ms mv Φ := by
  have hb := zlightR_b hG.2.1 hr
  unfold wp_X5_light
  exact t_X5_lightCode hG.1 hG.2.1 hx hr (fun c => ⟨(qR_i (by omega) (by omega)), fun z => absurd z (by omega), fun _ => h1 c⟩) (fun c => ⟨by decide, fun _ => s_X5_act hs (fun sm' gv hact => t_X5_lightNow hG hr c (fun g hg hf => h2 c sm' g gv hact hg hf)), fun z => absurd (by decide) z⟩)
theorem m_darken {x sz' : Int} {od' : Nat → Int} {Φ : Int → Int → Int → (Nat → Int) → (Nat → Int) → Prop} (hG : zG ms sz ph od pi se) (hs : 0 ≤ sm ∧ sm ≤ 5) (hx : qR x) (hr : zdarkR x sz od r sz' od') (h1 : r < 0 → Φ r 0 sm ms mv) (h2 : 0 ≤ r → ∀ sm' g gv, zAct sm ms mv sm' gv → zG g sz' ph od' pi se → zFr ms g → Φ r 0 sm' g gv) : wp_X5_darken x th sm ms mv Φ := by
  have hb := zdarkR_b hG.2.1 hr
  unfold wp_X5_darken
  exact t_X5_darkCode hG.1 hG.2.1 hx hr (fun c => ⟨(qR_i (by omega) (by omega)), fun z => absurd z (by omega), fun _ => h1 c⟩) (fun c => ⟨by decide, fun _ => s_X5_act hs (fun sm' gv hact => t_X5_darkNow hG hx hr c (fun g hg hf => h2 c sm' g gv hact hg hf)), fun z => absurd (by decide) z⟩)
theorem m_exchange {x y : Int} {od' : Nat → Int} {Φ : Int → Int → Int → (Nat → Int) → (Nat → Int) → (Nat → Int) → Prop} (hG : zG ms sz ph od pi se) (hs : 0 ≤ sm ∧ sm ≤ 5) (hx : qR x) (hy : qR y) (hr : zswapR x y sz od se r od') (h1 : r < 0 → Φ r 0 sm ms mv ml) (h2 : 0 ≤ r → ∀ sm' g gv gl, zAct sm ms mv sm' gv → zG g sz ph od' pi se → zFr ms g → Φ r 0 sm' g gv gl) : wp_X5_exchange x y th sm ms mv ml Φ := by
  have hb := zswapR_b hG.2.1 hr
  unfold wp_X5_exchange
  exact t_X5_swapCode hG.1 hG.2.1 hx hy hr (fun c => ⟨(qR_i (by omega) (by omega)), fun z => absurd z (by omega), fun _ => h1 c⟩) (fun c => ⟨by decide, fun _ => s_X5_act hs (fun sm' gv hact => t_X5_swapNow hG hr c (fun g gl hg hf => h2 c sm' g gv gl hact hg hf)), fun z => absurd (by decide) z⟩)
theorem m_sort {x : Int} {od' : Nat → Int} {Φ : Int → Int → Int → (Nat → Int) → (Nat → Int) → (Nat → Int) → Prop} (hG : zG ms sz ph od pi se) (hs : 0 ≤ sm ∧ sm ≤ 5) (hx : qR x) (hr : zsortR x sz ph od pi se r od') (h1 : r < 0 → Φ r 0 sm ms mv ml) (h2 : 0 ≤ r → ∀ sm' g gv gl, zAct sm ms mv sm' gv → zG g sz ph od' pi se → zFr ms g → Φ r 0 sm' g gv gl) : wp_X5_sort x th sm ms mv ml Φ := by
  have hb := zsortR_b hG.2.1 hr
  unfold wp_X5_sort
  exact t_X5_sortCode hx hr (fun c => ⟨(qR_i (by omega) (by omega)), fun z => absurd z (by omega), fun _ => h1 c⟩) (fun c => ⟨by decide, fun _ => s_X5_act hs (fun sm' gv hact => t_X5_sortNow hG hr c (fun g gl hg hf => h2 c sm' g gv gl hact hg hf)), fun z => absurd (by decide) z⟩)
theorem m_draw {p x b : Int} {pi' : Nat → Int64} {Φ : Int → Int → Int → (Nat → Int) → (Nat → Int) → Prop} (hG : zG ms sz ph od pi se) (hs : 0 ≤ sm ∧ sm ≤ 5) (hp : qR p) (hx : qR x) (hb : qR b) (hr : zdrawR p x b pi r pi') (h1 : r < 0 → Φ r 0 sm ms mv) (h2 : 0 ≤ r → ∀ sm' g gv, zAct sm ms mv sm' gv → zG g sz ph od pi' se → zFr ms g → Φ r 0 sm' g gv) : wp_X5_draw p x b th sm ms mv Φ := by
  unfold wp_X5_draw wp_X5_draw_26
  have bad : ¬ ((0 ≤ p ∧ p < 2) ∧ (0 ≤ x ∧ x < 64) ∧ 0 ≤ b ∧ b < 2) → Φ (-1) 0 sm ms mv := fun c => by
    rcases hr with ⟨-, e, -⟩ | ⟨c1, c2, c3, -⟩
    · rw [← e]
      exact h1 (by omega)
    · exact absurd ⟨c1, c2, c3⟩ c
  refine s_X5_isBit hp ?_
  by_cases c1 : 0 ≤ p ∧ p < 2
  · rw [if_pos c1]
    refine ⟨by decide, fun z => absurd z (by decide), fun _ => s_X5_isSpot hx ?_⟩
    by_cases c2 : 0 ≤ x ∧ x < 64
    · rw [if_pos c2]
      refine ⟨by decide, fun z => absurd z (by decide), fun _ => s_X5_isBit hb ?_⟩
      by_cases c3 : 0 ≤ b ∧ b < 2
      · rw [if_pos c3]
        have h0 : 0 ≤ r := by
          rcases hr with ⟨c, -⟩ | ⟨-, -, -, -, e⟩
          · exact absurd ⟨c1, c2, c3⟩ c
          · have := zcnt_b (f := zb (pi' p.toNat)) 64 (fun k _ => by rcases zb_01 (pi' p.toNat) k with q | q <;> rw [q] <;> decide)
            omega
        exact ⟨by decide, fun _ => s_X5_act hs (fun sm' gv hact => t_X5_drawNow hG hr h0 (fun g hg hf => h2 h0 sm' g gv hact hg hf)), fun z => absurd (by decide) z⟩
      · rw [if_neg c3]
        exact ⟨by decide, fun z => absurd rfl z, fun _ => bad (by omega)⟩
    · rw [if_neg c2]
      exact ⟨by decide, fun _ => bad (by omega), fun z => absurd rfl z⟩
  · rw [if_neg c1]
    exact ⟨by decide, fun _ => bad (by omega), fun z => absurd rfl z⟩
end ZACT
