/-! P26, 3: an act of the law: its answer as a value, what it leaves -/
def zsetV (x y : Int) (se : Nat → Int) : Int := if (0 ≤ x ∧ x < 6) ∧ qLE x.toNat ≤ y ∧ y ≤ qMO x.toNat then se x.toNat else -1
theorem zsetR_v {x y r : Int} {se se' : Nat → Int} (h : zsetR x y se r se') : r = zsetV x y se := by
  unfold zsetV
  rcases h with ⟨c, e, -⟩ | ⟨c, d, e, -⟩
  · rw [if_neg c, e]
  · rw [if_pos ⟨c, d⟩, e]
def zkindV (x y : Int) (ph : Nat → Int) : Int := if (0 ≤ x ∧ x < 64) ∧ 0 ≤ y ∧ y < 4 then ph x.toNat else -1
theorem zkindR_v {x y r : Int} {ph ph' : Nat → Int} (h : zkindR x y ph r ph') : r = zkindV x y ph := by
  unfold zkindV
  rcases h with ⟨c, e, -⟩ | ⟨c, d, e, -⟩
  · rw [if_neg c, e]
  · rw [if_pos ⟨c, d⟩, e]
def zlightV (x sz : Int) (od : Nat → Int) : Int := if 0 ≤ x ∧ x < 64 then (if zpos sz od x = -9 then (if sz = 12 then -3 else sz) else -2) else -1
theorem zlightR_v {x sz r sz' : Int} {od od' : Nat → Int} (h : zlightR x sz od r sz' od') : r = zlightV x sz od := by
  unfold zlightV
  rcases h with ⟨c, e, -⟩ | ⟨c, d, e, -⟩ | ⟨c, d, d2, e, -⟩ | ⟨c, d, d2, e, -⟩
  · rw [if_neg c, e]
  · rw [if_pos c, if_neg d, e]
  · rw [if_pos c, if_pos d, if_pos d2, e]
  · rw [if_pos c, if_pos d, if_neg (by omega), e]
def zdarkV (x sz : Int) (od : Nat → Int) : Int := if 0 ≤ x ∧ x < 64 then (if zpos sz od x = -9 then -2 else zpos sz od x) else -1
theorem zdarkR_v {x sz r sz' : Int} {od od' : Nat → Int} (h : zdarkR x sz od r sz' od') : r = zdarkV x sz od := by
  unfold zdarkV
  rcases h with ⟨c, e, -⟩ | ⟨c, d, e, -⟩ | ⟨c, d, e, -⟩
  · rw [if_neg c, e]
  · rw [if_pos c, if_pos d, e]
  · rw [if_pos c, if_neg d, e]
def zswapV (i j sz : Int) (od se : Nat → Int) : Int := if (0 ≤ i ∧ i < sz) ∧ 0 ≤ j ∧ j < sz then zlsz sz (zsw od i j) se else -1
theorem zswapR_v {i j sz r : Int} {od se od' : Nat → Int} (h : zswapR i j sz od se r od') : r = zswapV i j sz od se := by
  unfold zswapV
  rcases h with ⟨c, e, -⟩ | ⟨c, d, e, -⟩
  · rw [if_neg c, e]
  · rw [if_pos ⟨c, d⟩, e]
def zsortV (rule sz : Int) (ph od : Nat → Int) (pi : Nat → Int64) (se : Nat → Int) : Int := if 0 ≤ rule ∧ rule ≤ 3 then zlsz sz (zsrt (zrank ph (pi 1) rule) sz sz.toNat 0 0 od) se else -1
theorem zsortR_v {rule sz r : Int} {ph od se od' : Nat → Int} {pi : Nat → Int64} (h : zsortR rule sz ph od pi se r od') : r = zsortV rule sz ph od pi se := by
  unfold zsortV
  rcases h with ⟨c, e, -⟩ | ⟨c, -, e, d⟩
  · rw [if_neg c, e]
  · rw [if_pos c, e, d]
def zdrawV (p s b : Int) (pi : Nat → Int64) : Int := if (0 ≤ p ∧ p < 2) ∧ (0 ≤ s ∧ s < 64) ∧ 0 ≤ b ∧ b < 2 then zcnt (fun k => if (k : Int) = s then b else zb (pi p.toNat) k) 64 else -1
theorem zdrawR_v {p s b r : Int} {pi pi' : Nat → Int64} (h : zdrawR p s b pi r pi') : r = zdrawV p s b pi := by
  unfold zdrawV
  rcases h with ⟨c, e, -⟩ | ⟨c, d, d2, hg, e⟩
  · rw [if_neg c, e]
  · rw [if_pos ⟨c, d, d2⟩, e]
    refine zcnt_c 64 (fun k hk => ?_)
    rw [hg p.toNat k hk]
    by_cases z : (k : Int) = s
    · rw [if_pos ⟨rfl, z⟩, if_pos z]
    · rw [if_neg (fun q => z q.2), if_neg z]
theorem zat_b {x sz : Int} {od : Nat → Int} (ho : zOk sz od) : -9 ≤ zat x sz od ∧ zat x sz od < 64 := by
  unfold zat
  by_cases c : x < 0
  · rw [if_pos c]; omega
  · rw [if_neg c]
    by_cases d : x < sz
    · rw [if_pos d]
      have := ho.2.1 x.toNat (by omega)
      omega
    · rw [if_neg d]; omega
/-- the spot that an act speaks of -/
def zkn (v sz : Int) (od : Nat → Int) : Int := if 0 ≤ zat (zlw (qshr v 4) (sz + 1)) sz od then zat (zlw (qshr v 4) (sz + 1)) sz od else zlw (qshr v 4) 64
def zactA (a v sz : Int) (ph od : Nat → Int) (pi : Nat → Int64) (se : Nat → Int) : Int :=
  if a = 0 then zsetV 0 (8 + zlw (qshr v 4) 120) se else if a = 1 then zsetV 1 (1 + zlw (qshr v 4) 4) se else if a = 2 then zsetV (2 + zlw (qshr v 4) 2 * 3) (1 + zlw (qshr v 6) 100) se else if a = 3 then zsetV 3 (zlw (qshr v 4) 200) se else if a = 4 then zsetV 4 (1 + zlw (qshr v 4) 50) se else if a = 5 ∨ a = 6 then zkindV (zkn v sz od) (zlw (qshr v 10) 4) ph else if a = 7 then zdarkV (zkn v sz od) sz od else if a = 8 then zswapV (zlw (qshr v 4) (sz + 1)) (zlw (qshr v 8) (sz + 1)) sz od se else if a = 9 then zsortV (zlw (qshr v 4) 4) sz ph od pi se else if a = 10 ∨ a = 11 then zdrawV (qand (qshr v 12) 1) (zkn v sz od) (qand (qand (qshr v 13) 3) 1) pi else if a = 12 then (if 0 ≤ qand (qshr v 4) 1 ∧ qand (qshr v 4) 1 < 2 then sz else -1) else zlightV (zlw (qshr v 4) 64) sz od
/-- what an act answers -/
def zactV (v sz : Int) (ph od : Nat → Int) (pi : Nat → Int64) (se : Nat → Int) : Int := zactA (qand v 15) v sz ph od pi se
def zactS (v : Int) (st : qSt) : Int := zactV v st.2.1.1 st.2.1.2.1 st.2.1.2.2.1 st.2.1.2.2.2.1 st.2.1.2.2.2.2
/-- what an act leaves -/
def zOut (v kp : Int) (hc : Nat → qSt) (st st' : qSt) (kp' : Int) (hc' : Nat → qSt) : Prop := zV st' ∧ zHr (zactS v st) kp hc st kp' hc' ∧ (zactS v st < 0 → st' = st) ∧ (qand v 15 = 9 → st'.2.1.1 = st.2.1.1) ∧ -3 ≤ zactS v st ∧ zactS v st ≤ 200
section ZACTS
variable {kp tl : Int} {tk : Nat → Int} {szs : Int} {phs ods : Nat → Int} {pis : Nat → Int64} {ses : Nat → Int} {szx : Int} {phx odx : Nat → Int} {pix : Nat → Int64} {sex : Nat → Int} {szy : Int} {phy ody : Nat → Int} {piy : Nat → Int64} {sey : Nat → Int} {ha : Nat → Nat → Nat} {hc : Nat → qSt}
variable {Φ : Int → Int → (Nat → Int) → Int → (Nat → Int) → (Nat → Int) → (Nat → Int64) → (Nat → Int) → Int → (Nat → Int) → (Nat → Int) → (Nat → Int64) → (Nat → Int) → Int → (Nat → Int) → (Nat → Int) → (Nat → Int64) → (Nat → Int) → (Nat → Nat → Nat) → (Nat → qSt) → Prop}
set_option maxHeartbeats 4000000 in
theorem a_act36 {v x2 k0 : Int} (hV : zV (tk, (szs, phs, ods, pis, ses), (szx, phx, odx, pix, sex), (szy, phy, ody, piy, sey))) (hH : zHk kp hc) (h2 : x2 = zlw (qshr v 4) 64) (hk : k0 = zkn v szs ods)
    (h : ∀ kp' tk' szs' phs' ods' pis' ses' szx' phx' odx' pix' sex' szy' phy' ody' piy' sey' ha' hc', zOut v kp hc (tk, (szs, phs, ods, pis, ses), (szx, phx, odx, pix, sex), (szy, phy, ody, piy, sey)) (tk', (szs', phs', ods', pis', ses'), (szx', phx', odx', pix', sex'), (szy', phy', ody', piy', sey')) kp' hc' → Φ (zactV v szs phs ods pis ses) kp' tk' szs' phs' ods' pis' ses' szx' phx' odx' pix' sex' szy' phy' ody' piy' sey' ha' hc') : wp_L_act_36 Φ v x2 k0 kp tl tk szs phs ods pis ses szx phx odx pix sex szy phy ody piy sey ha hc := by
  have hX : zX szs phs ods pis ses := hV.1
  have ho := hX.2.1
  have hs := hX.2.2.1
  have hph := hX.2.2.2
  have ho1 := ho.1
  have hkb : 0 ≤ k0 ∧ k0 < 64 := by
    have b1 := zat_b (x := zlw (qshr v 4) (szs + 1)) ho
    have b2 := zlw_b (v := qshr v 4) (n := 64) (by decide)
    rw [hk]
    unfold zkn
    split <;> omega
  have h2b : 0 ≤ x2 ∧ x2 < 64 := by
    rw [h2]
    exact zlw_b (by decide)
  have fset : ∀ x y : Int, qR x → qR y → zactV v szs phs ods pis ses = zsetV x y ses → qand v 15 ≠ 9 → wp_X4_set x y kp tk szs phs ods pis ses szx phx odx pix sex szy phy ody piy sey ha hc (fun (r10 : Int) (g11 : Int) (g12 : Nat → Int) (g13 : Nat → Nat → Nat) (g14 : Nat → qSt) => Φ r10 g11 tk szs phs ods pis g12 szx phx odx pix sex szy phy ody piy sey g13 g14) := by
    intro x y hx hy e9 hne
    refine a_set hV hH hx hy (fun r se' kp' ha' hc' hr hn => ?_)
    have e := (zsetR_v hr).trans e9.symm
    have hb := zsetR_b hs hr
    subst e
    exact h _ _ _ _ _ _ _ _ _ _ _ _ _ _ _ _ _ _ _ ⟨⟨zX_i ho hb.1 hph, hV.2⟩, hn, fun c => by rw [zsetR_n hs hr c], fun c => rfl, hb.2⟩
  have fkind : ∀ x y : Int, qR x → qR y → zactV v szs phs ods pis ses = zkindV x y phs → wp_X4_setPhosphor x y kp tk szs phs ods pis ses szx phx odx pix sex szy phy ody piy sey ha hc (fun (r10 : Int) (g11 : Int) (g12 : Nat → Int) (g13 : Nat → Nat → Nat) (g14 : Nat → qSt) => Φ r10 g11 tk szs g12 ods pis ses szx phx odx pix sex szy phy ody piy sey g13 g14) := by
    intro x y hx hy e9
    refine a_setPhosphor hV hH hx hy (fun r ph' kp' ha' hc' hr hn => ?_)
    have e := (zkindR_v hr).trans e9.symm
    have hb := zkindR_b hph hr
    subst e
    exact h _ _ _ _ _ _ _ _ _ _ _ _ _ _ _ _ _ _ _ ⟨⟨zX_i ho hs hb.1, hV.2⟩, hn, fun c => by rw [zkindR_n hph hr c], fun c => rfl, hb.2⟩
  have fdraw : ∀ x y z : Int, qR x → qR y → qR z → zactV v szs phs ods pis ses = zdrawV x y z pis → wp_X4_draw x y z kp tk szs phs ods pis ses szx phx odx pix sex szy phy ody piy sey ha hc (fun (r10 : Int) (g11 : Int) (g12 : Nat → Int64) (g13 : Nat → Nat → Nat) (g14 : Nat → qSt) => Φ r10 g11 tk szs phs ods g12 ses szx phx odx pix sex szy phy ody piy sey g13 g14) := by
    intro x y z hx hy hz e9
    refine a_draw hV hH hx hy hz (fun r pi' kp' ha' hc' hr hn => ?_)
    have e := (zdrawR_v hr).trans e9.symm
    have hb := zdrawR_b hr
    subst e
    exact h _ _ _ _ _ _ _ _ _ _ _ _ _ _ _ _ _ _ _ ⟨⟨zX_i ho hs hph, hV.2⟩, hn, fun c => by rw [zdrawR_n hr c], fun c => rfl, hb⟩
  have hq : ∀ a : Int, qand v 15 = a → zactV v szs phs ods pis ses = zactA a v szs phs ods pis ses := fun a e => by
    unfold zactV
    rw [e]
  unfold wp_L_act_36
  intro v1 e1
  have hv1 : qR v1 := by
    rw [e1]
    exact qR_of _
  have hq1 := hq v1 e1.symm
  unfold zactA at hq1
  refine ⟨hv1, fun c => ?_, fun c w e => ?_, fun c w e => ?_, fun c w e => ?_, fun c w e => ?_, fun c w e => ?_, fun c w e => ?_, fun c w e => ?_, fun c => ?_, fun c w e => ?_, fun c w e => ?_, fun c w1 d1 w2 d2 w3 d3 w4 d4 w5 d5 => ?_, fun c w1 d1 w2 d2 w3 d3 w4 d4 w5 d5 => ?_, fun c w1 d1 w2 d2 => ?_⟩
  · rw [if_neg (by omega), if_neg (by omega), if_neg (by omega), if_neg (by omega), if_neg (by omega), if_neg (by omega), if_neg (by omega), if_neg (by omega), if_neg (by omega), if_neg (by omega), if_neg (by omega), ← h2] at hq1
    refine a_light hV hH (qR_i (by omega) (by omega)) (fun r sz' od' kp' ha' hc' hr hn => ?_)
    have e := (zlightR_v hr).trans hq1.symm
    have hb := zlightR_b ho hr
    subst e
    exact h _ _ _ _ _ _ _ _ _ _ _ _ _ _ _ _ _ _ _ ⟨⟨zX_i hb.1 hs hph, hV.2⟩, hn, fun c9 => by rw [(zlightR_n ho hr c9).1, (zlightR_n ho hr c9).2], fun c9 => by omega, hb.2⟩
  · rw [if_pos c] at hq1
    subst e
    have b := zlw_b (v := qshr v 4) (n := 120) (by decide)
    exact s_low (by decide) (fset _ _ (by decide) (qR_i (by omega) (by omega)) hq1 (by omega))
  · rw [if_neg (by omega), if_pos c] at hq1
    subst e
    have b := zlw_b (v := qshr v 4) (n := 4) (by decide)
    exact s_low (by decide) (fset _ _ (by decide) (qR_i (by omega) (by omega)) hq1 (by omega))
  · rw [if_neg (by omega), if_neg (by omega), if_pos c] at hq1
    subst e
    have b := zlw_b (v := qshr v 4) (n := 2) (by decide)
    have b2 := zlw_b (v := qshr v 6) (n := 100) (by decide)
    refine s_low (by decide) (fun w2 e2 => ?_)
    subst e2
    exact s_low (by decide) (fset _ _ (qR_i (by omega) (by omega)) (qR_i (by omega) (by omega)) hq1 (by omega))
  · rw [if_neg (by omega), if_neg (by omega), if_neg (by omega), if_pos c] at hq1
    subst e
    have b := zlw_b (v := qshr v 4) (n := 200) (by decide)
    exact s_low (by decide) (fset _ _ (by decide) (qR_i (by omega) (by omega)) hq1 (by omega))
  · rw [if_neg (by omega), if_neg (by omega), if_neg (by omega), if_neg (by omega), if_pos c] at hq1
    subst e
    have b := zlw_b (v := qshr v 4) (n := 50) (by decide)
    exact s_low (by decide) (fset _ _ (by decide) (qR_i (by omega) (by omega)) hq1 (by omega))
  · rw [if_neg (by omega), if_neg (by omega), if_neg (by omega), if_neg (by omega), if_neg (by omega), if_pos (by omega), ← hk] at hq1
    subst e
    have b := zlw_b (v := qshr v 10) (n := 4) (by decide)
    exact s_low (by decide) (fkind _ _ (qR_i (by omega) (by omega)) (qR_i (by omega) (by omega)) hq1)
  · rw [if_neg (by omega), if_neg (by omega), if_neg (by omega), if_neg (by omega), if_neg (by omega), if_pos (by omega), ← hk] at hq1
    subst e
    have b := zlw_b (v := qshr v 10) (n := 4) (by decide)
    exact s_low (by decide) (fkind _ _ (qR_i (by omega) (by omega)) (qR_i (by omega) (by omega)) hq1)
  · rw [if_neg (by omega), if_neg (by omega), if_neg (by omega), if_neg (by omega), if_neg (by omega), if_neg (by omega), if_pos c, ← hk] at hq1
    refine a_darken hV hH (qR_i (by omega) (by omega)) (fun r sz' od' kp' ha' hc' hr hn => ?_)
    have e := (zdarkR_v hr).trans hq1.symm
    have hb := zdarkR_b ho hr
    subst e
    exact h _ _ _ _ _ _ _ _ _ _ _ _ _ _ _ _ _ _ _ ⟨⟨zX_i hb.1 hs hph, hV.2⟩, hn, fun c9 => by rw [(zdarkR_n hr c9).1, (zdarkR_n hr c9).2], fun c9 => by omega, hb.2⟩
  · rw [if_neg (by omega), if_neg (by omega), if_neg (by omega), if_neg (by omega), if_neg (by omega), if_neg (by omega), if_neg (by omega), if_pos c] at hq1
    subst e
    have b := zlw_b (v := qshr v 4) (n := szs + 1) (by omega)
    have b2 := zlw_b (v := qshr v 8) (n := szs + 1) (by omega)
    refine a_count hX hV.2.1 hV.2.2 (by decide) (s_low (n := szs + 1) ⟨by omega, by omega⟩ (fun w2 e2 => ?_))
    subst e2
    refine a_count hX hV.2.1 hV.2.2 (by decide) (s_low (n := szs + 1) ⟨by omega, by omega⟩ (a_exchange hV hH (qR_i (by omega) (by omega)) (qR_i (by omega) (by omega)) (fun r od' kp' ha' hc' hr hn => ?_)))
    have e := (zswapR_v hr).trans hq1.symm
    have hb := zswapR_b ho hr
    subst e
    exact h _ _ _ _ _ _ _ _ _ _ _ _ _ _ _ _ _ _ _ ⟨⟨zX_i hb.1 hs hph, hV.2⟩, hn, fun c9 => by rw [zswapR_n ho hr c9], fun c9 => rfl, hb.2⟩
  · rw [if_neg (by omega), if_neg (by omega), if_neg (by omega), if_neg (by omega), if_neg (by omega), if_neg (by omega), if_neg (by omega), if_neg (by omega), if_pos c] at hq1
    subst e
    have b := zlw_b (v := qshr v 4) (n := 4) (by decide)
    refine s_low (by decide) (a_sort hV hH (qR_i (by omega) (by omega)) (fun r od' kp' ha' hc' hr hn => ?_))
    have e := (zsortR_v hr).trans hq1.symm
    have hb := zsortR_b ho hr
    subst e
    exact h _ _ _ _ _ _ _ _ _ _ _ _ _ _ _ _ _ _ _ ⟨⟨zX_i hb.1 hs hph, hV.2⟩, hn, fun c9 => by rw [zsortR_n hr c9], fun c9 => rfl, hb.2⟩
  · rw [if_neg (by omega), if_neg (by omega), if_neg (by omega), if_neg (by omega), if_neg (by omega), if_neg (by omega), if_neg (by omega), if_neg (by omega), if_neg (by omega), if_pos (by omega), ← hk] at hq1
    rw [d5, d4, d3, d2, d1]
    exact fdraw _ _ _ (qR_of _) (qR_i (by omega) (by omega)) (qR_of _) hq1
  · rw [if_neg (by omega), if_neg (by omega), if_neg (by omega), if_neg (by omega), if_neg (by omega), if_neg (by omega), if_neg (by omega), if_neg (by omega), if_neg (by omega), if_pos (by omega), ← hk] at hq1
    rw [d5, d4, d3, d2, d1]
    exact fdraw _ _ _ (qR_of _) (qR_i (by omega) (by omega)) (qR_of _) hq1
  · rw [if_neg (by omega), if_neg (by omega), if_neg (by omega), if_neg (by omega), if_neg (by omega), if_neg (by omega), if_neg (by omega), if_neg (by omega), if_neg (by omega), if_neg (by omega), if_pos c, ← d1, ← d2] at hq1
    have hw2 : qR w2 := by
      rw [d2]
      exact qR_of _
    have key : ∀ r : Int, r = zactV v szs phs ods pis ses → zactS v (tk, (szs, phs, ods, pis, ses), (szx, phx, odx, pix, sex), (szy, phy, ody, piy, sey)) = r := fun r e => e.symm
    refine a_take hV hH hw2 (fun c0 kp' ha' hc' hn => ?_) (fun c0 kp' ha' hc' hn => ?_) (fun c0 kp' ha' hc' hn => ?_)
    · rw [if_neg c0] at hq1
      have e := key _ hq1.symm
      have q := h kp' tk szs phs ods pis ses szx phx odx pix sex szy phy ody piy sey ha' hc' ⟨hV, by rw [e]; exact hn, fun c9 => rfl, fun c9 => rfl, by rw [e]; decide⟩
      rw [hq1] at q
      exact q
    · rw [if_pos (by omega)] at hq1
      have e := key _ hq1.symm
      have q := h kp' (qU tk 0 1) szs phs ods pis ses szs phs ods pis ses szy phy ody piy sey ha' hc' ⟨⟨hV.1, Or.inr rfl, hV.2.2⟩, by rw [e]; exact hn, fun c9 => by rw [e] at c9; omega, fun c9 => rfl, by rw [e]; omega⟩
      rw [hq1] at q
      exact q
    · rw [if_pos (by omega)] at hq1
      have e := key _ hq1.symm
      have q := h kp' (qU tk 1 1) szs phs ods pis ses szx phx odx pix sex szs phs ods pis ses ha' hc' ⟨⟨hV.1, hV.2.1, Or.inr rfl⟩, by rw [e]; exact hn, fun c9 => by rw [e] at c9; omega, fun c9 => rfl, by rw [e]; omega⟩
      rw [hq1] at q
      exact q
theorem a_act {v : Int} (hV : zV (tk, (szs, phs, ods, pis, ses), (szx, phx, odx, pix, sex), (szy, phy, ody, piy, sey))) (hH : zHk kp hc)
    (h : ∀ kp' tk' szs' phs' ods' pis' ses' szx' phx' odx' pix' sex' szy' phy' ody' piy' sey' ha' hc', zOut v kp hc (tk, (szs, phs, ods, pis, ses), (szx, phx, odx, pix, sex), (szy, phy, ody, piy, sey)) (tk', (szs', phs', ods', pis', ses'), (szx', phx', odx', pix', sex'), (szy', phy', ody', piy', sey')) kp' hc' → Φ (zactV v szs phs ods pis ses) kp' tk' szs' phs' ods' pis' ses' szx' phx' odx' pix' sex' szy' phy' ody' piy' sey' ha' hc') : wp_L_act v kp tl tk szs phs ods pis ses szx phx odx pix sex szy phy ody piy sey ha hc Φ := by
  have hX : zX szs phs ods pis ses := hV.1
  have ho := hX.2.1
  have ho1 := ho.1
  unfold wp_L_act
  intro w1 e1
  subst e1
  refine s_low (by decide) (fun w2 e2 => ?_)
  subst e2
  have b := zlw_b (v := qshr v 4) (n := szs + 1) (by omega)
  have b1 := zat_b (x := zlw (qshr v 4) (szs + 1)) ho
  refine a_count hX hV.2.1 hV.2.2 (by decide) (s_low (n := szs + 1) ⟨by omega, by omega⟩ (a_at ho (qR_i (by omega) (by omega)) ?_))
  show qR (zat (zlw (qshr v 4) (szs + 1)) szs ods) ∧ _
  refine ⟨(qR_i (by omega) (by omega)), fun c => a_act36 hV hH rfl ?_ h, fun c => a_act36 hV hH rfl ?_ h⟩
  · have c : 0 ≤ zat (zlw (qshr v 4) (szs + 1)) szs ods := c
    unfold zkn
    rw [if_pos c]
    rfl
  · have c : ¬ 0 ≤ zat (zlw (qshr v 4) (szs + 1)) szs ods := c
    unfold zkn
    rw [if_neg c]
end ZACTS
