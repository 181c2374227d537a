/-! PURE 8: the model's screen: its cells and the class's fields; way, fading, beam -/
def zR (ms : Nat → Int) (sz : Int) (ph od : Nat → Int) (pi : Nat → Int64) (se : Nat → Int) : Prop := (∀ k : Nat, k < 6 → ms k = se k) ∧ ms 6 = sz ∧ (∀ k : Nat, k < 12 → ms (7 + k) = od k) ∧ (∀ k : Nat, k < 64 → ms (19 + k) = ph k) ∧ (∀ k : Nat, k < 64 → ms (83 + k) = zb (pi 0) k) ∧ ∀ k : Nat, k < 64 → ms (147 + k) = zb (pi 1) k
def zG (ms : Nat → Int) (sz : Int) (ph od : Nat → Int) (pi : Nat → Int64) (se : Nat → Int) : Prop := zR ms sz ph od pi se ∧ zOk sz od ∧ zSe se ∧ zPh ph
theorem zR_se {ms : Nat → Int} {sz : Int} {ph od : Nat → Int} {pi : Nat → Int64} {se : Nat → Int} (h : zR ms sz ph od pi se) {x : Int} (hx : 0 ≤ x ∧ x < 6) : ms ((0 : Int) + x).toNat = se x.toNat := by
  rw [show ((0 : Int) + x).toNat = x.toNat by omega]
  exact h.1 _ (by omega)
theorem zR_od {ms : Nat → Int} {sz : Int} {ph od : Nat → Int} {pi : Nat → Int64} {se : Nat → Int} (h : zR ms sz ph od pi se) {x : Int} (hx : 0 ≤ x ∧ x < 12) : ms ((7 : Int) + x).toNat = od x.toNat := by
  rw [show ((7 : Int) + x).toNat = 7 + x.toNat by omega]
  exact h.2.2.1 _ (by omega)
theorem zR_ph {ms : Nat → Int} {sz : Int} {ph od : Nat → Int} {pi : Nat → Int64} {se : Nat → Int} (h : zR ms sz ph od pi se) {x : Int} (hx : 0 ≤ x ∧ x < 64) : ms ((19 : Int) + x).toNat = ph x.toNat := by
  rw [show ((19 : Int) + x).toNat = 19 + x.toNat by omega]
  exact h.2.2.2.1 _ (by omega)
theorem zR_p0 {ms : Nat → Int} {sz : Int} {ph od : Nat → Int} {pi : Nat → Int64} {se : Nat → Int} (h : zR ms sz ph od pi se) {x : Int} (hx : 0 ≤ x ∧ x < 64) : ms ((83 : Int) + x).toNat = zb (pi 0) x.toNat := by
  rw [show ((83 : Int) + x).toNat = 83 + x.toNat by omega]
  exact h.2.2.2.2.1 _ (by omega)
theorem zR_p1 {ms : Nat → Int} {sz : Int} {ph od : Nat → Int} {pi : Nat → Int64} {se : Nat → Int} (h : zR ms sz ph od pi se) {x : Int} (hx : 0 ≤ x ∧ x < 64) : ms ((147 : Int) + x).toNat = zb (pi 1) x.toNat := by
  rw [show ((147 : Int) + x).toNat = 147 + x.toNat by omega]
  exact h.2.2.2.2.2 _ (by omega)
theorem s_X5_in {x lo hi : Int} {Φ : Int → Prop} (hx : qR x) (hl : qR lo) (hh : qR hi) (h : Φ (if lo ≤ x ∧ x ≤ hi then 1 else 0)) : wp_X5_in x lo hi Φ := by
  unfold wp_X5_in wp_X5_in_14 wp_X5_in_15
  refine ⟨⟨hx, hl⟩, fun c => ⟨Or.inl rfl, ?_⟩, fun c => ⟨⟨hx, hh⟩, fun c2 => ⟨Or.inl rfl, ?_⟩, fun c2 => ⟨Or.inr rfl, ?_⟩⟩⟩
  · rwa [if_neg (by omega)] at h
  · rwa [if_neg (by omega)] at h
  · rwa [if_pos (by omega)] at h
theorem zif01 {p : Prop} [Decidable p] : (if p then (1 : Int) else 0) = 0 ∨ (if p then (1 : Int) else 0) = 1 := by
  by_cases c : p
  · rw [if_pos c]; exact Or.inr rfl
  · rw [if_neg c]; exact Or.inl rfl
theorem zif_c {p q : Prop} [Decidable p] [Decidable q] (h : p ↔ q) : (if p then (1 : Int) else 0) = if q then 1 else 0 := by
  by_cases c : p
  · rw [if_pos c, if_pos (h.1 c)]
  · rw [if_neg c, if_neg (fun z => c (h.2 z))]
theorem s_X5_isSpot {x : Int} {Φ : Int → Prop} (hx : qR x) (h : Φ (if 0 ≤ x ∧ x < 64 then 1 else 0)) : wp_X5_isSpot x Φ := by
  unfold wp_X5_isSpot
  refine s_X5_in hx (by decide) (by decide) ⟨zif01, ?_⟩
  rwa [zif_c (show (0 ≤ x ∧ x ≤ 63) ↔ (0 ≤ x ∧ x < 64) by omega)]
theorem s_X5_isBit {x : Int} {Φ : Int → Prop} (hx : qR x) (h : Φ (if 0 ≤ x ∧ x < 2 then 1 else 0)) : wp_X5_isBit x Φ := by
  unfold wp_X5_isBit
  refine s_X5_in hx (by decide) (by decide) ⟨zif01, ?_⟩
  rwa [zif_c (show (0 ≤ x ∧ x ≤ 1) ↔ (0 ≤ x ∧ x < 2) by omega)]
theorem s_X5_size {x : Int} {Φ : Int → Prop} (hx : qR x) (h : Φ (if 0 ≤ x then x else 0 - x)) : wp_X5_size x Φ := by
  unfold wp_X5_size wp_X5_size_10
  refine ⟨hx, fun c => ?_, fun c => ?_⟩
  · rwa [if_pos c] at h
  · rw [if_neg c, show 0 - x = -x by omega] at h
    exact h
theorem s_X5_way {a b : Int} {Φ : Int → Prop} (ha : 0 ≤ a ∧ a < 64) (hb : 0 ≤ b ∧ b < 64) (h : Φ (zway a b)) : wp_X5_way a b Φ := by
  unfold wp_X5_way
  refine ⟨qP_i (by omega) (by omega) (by omega) (by omega), fun v1 e1 => ⟨qP_i (by omega) (by omega) (by omega) (by omega), fun v2 e2 => s_X5_size (qR_i (by omega) (by omega)) ⟨qP_i (by omega) (by omega) (by omega) (by omega), fun v4 e4 => ⟨qP_i (by omega) (by omega) (by omega) (by omega), fun v5 e5 => s_X5_size (qR_i (by omega) (by omega)) ?_⟩⟩⟩⟩
  subst e1 e2 e4 e5
  exact h
theorem s_X5_halved {v : Int} {Φ : Int → Prop} (hv : 0 ≤ v ∧ v < 1000) (h : Φ (((100 / 2 ^ v.toNat : Nat) : Int))) : wp_X5_halved v Φ := by
  unfold wp_X5_halved
  refine zl2 (fun a i => 0 ≤ i ∧ i ≤ v ∧ a = ((100 / 2 ^ i.toNat : Nat) : Int)) (fun a i => v - i) (fun n a i hi ih => ?_) _ _ ⟨by omega, by omega, rfl⟩
  obtain ⟨h1, h2, h3⟩ := hi
  have hle : 100 / 2 ^ i.toNat ≤ 100 := Nat.div_le_self _ _
  obtain ⟨w, hw⟩ : ∃ w : Nat, w = 100 / 2 ^ i.toNat := ⟨_, rfl⟩
  rw [← hw] at h3 hle
  unfold wp_X5_halved_5 wp_X5_halved_24
  refine ⟨⟨(qR_i (by omega) (by omega)), (qR_i (by omega) (by omega))⟩, fun c => ?_, fun c => ⟨(qR_i (by omega) (by omega)), fun c2 => ?_, fun c2 => ⟨qP_i (by omega) (by omega) (by omega) (by omega), fun v3 e3 v4 e4 => ?_⟩⟩⟩
  · rw [h3, hw, show i.toNat = v.toNat by omega]
    exact h
  · have z : 100 / 2 ^ i.toNat = 0 := by
      rw [← hw]
      omega
    have z2 : 100 / 2 ^ v.toNat = 0 := by
      rw [show v.toNat = i.toNat + (v - i).toNat by omega, Nat.pow_add, ← Nat.div_div_eq_div_mul, z, Nat.zero_div]
    rw [z2] at h
    rw [h3, hw, z]
    exact h
  · rw [e4]
    refine ih _ _ ⟨by omega, by omega, ?_⟩ (show (v - (i + 1)).toNat < (v - i).toNat by omega)
    rw [e3, h3, show (i + 1).toNat = i.toNat + 1 by omega, Nat.pow_add, ← Nat.div_div_eq_div_mul, ← hw]
    omega
theorem zhalf {age : Int} (ha : 0 ≤ age) : zglow 2 age = ((100 / 2 ^ (age / 5).toNat : Nat) : Int) := by
  unfold zglow
  rw [if_neg (by decide), if_neg (by decide), if_pos rfl]
  by_cases c : age < 35
  · rcases (show age / 5 = 0 ∨ age / 5 = 1 ∨ age / 5 = 2 ∨ age / 5 = 3 ∨ age / 5 = 4 ∨ age / 5 = 5 ∨ age / 5 = 6 by omega) with q | q | q | q | q | q | q <;> rw [q]
    · rw [if_pos (by omega)]; decide
    · rw [if_neg (by omega), if_pos (by omega)]; decide
    · rw [if_neg (by omega), if_neg (by omega), if_pos (by omega)]; decide
    · rw [if_neg (by omega), if_neg (by omega), if_neg (by omega), if_pos (by omega)]; decide
    · rw [if_neg (by omega), if_neg (by omega), if_neg (by omega), if_neg (by omega), if_pos (by omega)]; decide
    · rw [if_neg (by omega), if_neg (by omega), if_neg (by omega), if_neg (by omega), if_neg (by omega), if_pos (by omega)]; decide
    · rw [if_neg (by omega), if_neg (by omega), if_neg (by omega), if_neg (by omega), if_neg (by omega), if_neg (by omega), if_pos (by omega)]; decide
  · rw [if_neg (by omega), if_neg (by omega), if_neg (by omega), if_neg (by omega), if_neg (by omega), if_neg (by omega), if_neg (by omega), show (age / 5).toNat = 7 + (age / 5 - 7).toNat by omega, Nat.pow_add, ← Nat.div_div_eq_div_mul, show 100 / 2 ^ 7 = 0 by decide, Nat.zero_div]
    rfl
theorem s_X5_fading {ph age : Int} {Φ : Int → Prop} (hp : 0 ≤ ph ∧ ph ≤ 3) (ha : 0 ≤ age ∧ age < 1000) (h : Φ (zglow ph age)) : wp_X5_fading ph age Φ := by
  have hg := zglow_b (ph := ph) ha.1
  have k72 : ∀ v : Int, v ≤ 100 → -100000 < v → (if 0 < v then v else 0) = zglow ph age → wp_X5_fading_72 Φ v := by
    intro v hv1 hv2 e
    unfold wp_X5_fading_72 wp_X5_fading_81
    rw [← e] at h
    refine ⟨(qR_i (by omega) (by omega)), fun c => ?_, fun c => ?_⟩
    · by_cases z : 0 < v
      · rwa [if_pos z] at h
      · rw [if_neg z] at h
        rw [show v = 0 by omega]
        exact h
    · rwa [if_neg (by omega)] at h
  unfold wp_X5_fading wp_X5_fading_71
  refine ⟨(qR_i (by omega) (by omega)), fun c => ⟨⟨(qR_i (by omega) (by omega)), (qR_i (by omega) (by omega))⟩, fun c2 => k72 _ (by omega) (by omega) ?_, fun c2 => k72 _ (by omega) (by omega) ?_⟩, fun c v3 e3 => ?_, fun c v4 e4 => ?_, fun c => ⟨qP_i (by omega) (by omega) (by omega) (by omega), fun v5 e5 => s_X5_halved ⟨by omega, by omega⟩ ?_⟩⟩
  · unfold zglow
    rw [if_neg (show ¬ ph = 0 by omega), if_neg (show ¬ ph = 1 by omega), if_neg (show ¬ ph = 2 by omega), if_neg (show ¬ age < 8 by omega)]
    rfl
  · unfold zglow
    rw [if_neg (show ¬ ph = 0 by omega), if_neg (show ¬ ph = 1 by omega), if_neg (show ¬ ph = 2 by omega), if_pos (show age < 8 by omega)]
    rfl
  · refine k72 _ (by omega) (by omega) ?_
    unfold zglow
    rw [if_pos c, e3]
  · refine k72 _ (by omega) (by omega) ?_
    unfold zglow
    rw [if_neg (show ¬ ph = 0 by omega), if_pos c, e4]
  · have hz := zhalf ha.1
    rw [e5, ← hz]
    rw [← c]
    refine k72 _ (by omega) (by omega) ?_
    split
    · rfl
    · omega
theorem s_X5_spotAt {x : Int} {ms : Nat → Int} {sz : Int} {ph od : Nat → Int} {pi : Nat → Int64} {se : Nat → Int} {Φ : Int → Prop} (hR : zR ms sz ph od pi se) (hx : 0 ≤ x ∧ x < 12) (h : Φ (od x.toNat)) : wp_X5_spotAt x ms Φ := by
  unfold wp_X5_spotAt
  refine ⟨⟨by omega, by omega⟩, fun v e => ?_⟩
  rw [e, zR_od hR hx]
  exact h
theorem s_X5_lastTick {ms : Nat → Int} {sz : Int} {ph od : Nat → Int} {pi : Nat → Int64} {se : Nat → Int} {Φ : Int → Prop} (hG : zG ms sz ph od pi se) (h : Φ (zA od (se 1) sz.toNat)) : wp_X5_lastTick ms Φ := by
  obtain ⟨hR, ho, hs, hph⟩ := hG
  obtain ⟨s0, s1, -⟩ := hs
  have ho0 := ho.1
  unfold wp_X5_lastTick
  refine zl3 (fun a b i => 0 ≤ i ∧ i ≤ sz ∧ a = zA od (se 1) i.toNat ∧ b = zprev od i.toNat) (fun a b i => sz - i) (fun n a b i hi ih => ?_) _ _ _ ⟨by omega, by omega, rfl, rfl⟩
  obtain ⟨h1, h2, h3, h4⟩ := hi
  unfold wp_X5_lastTick_6
  refine ⟨by decide, fun v1 e1 => ?_⟩
  have e1 : v1 = sz := e1.trans hR.2.1
  refine ⟨⟨(qR_i (by omega) (by omega)), (qR_i (by omega) (by omega))⟩, fun c => ?_, fun c => s_X5_spotAt hR ⟨by omega, by omega⟩ ?_⟩
  · rw [h3, show i.toNat = sz.toNat by omega]
    exact h
  · have hv := ho.2.1 i.toNat (by omega)
    have hf := zprev_b ho (n := i.toNat) (by omega)
    rw [← h4] at hf
    refine s_X5_way hf hv ⟨by decide, fun v5 e5 v6 e6 => s_X5_spotAt hR ⟨by omega, by omega⟩ (fun v8 e8 => ?_)⟩
    have e5 : v5 = se 1 := e5.trans (hR.1 1 (by decide))
    rw [e8]
    refine ih _ _ _ ⟨by omega, by omega, ?_, ?_⟩ (show (sz - (i + 1)).toNat < (sz - i).toNat by omega)
    · rw [show (i + 1).toNat = i.toNat + 1 by omega, zA, ← h3, ← h4, e6, e5]
    · rw [show (i + 1).toNat = i.toNat + 1 by omega, zprev, if_neg (by omega)]
      rfl
/-- the tick of a spot among the first i of the order -/
def zlitN (od se : Nat → Int) (i : Nat) (spot : Int) : Int := if zposN od spot i = -9 then -9 else if zA od (se 1) (zposN od spot i + 1).toNat < se 0 then zA od (se 1) (zposN od spot i + 1).toNat else -9
theorem s_X5_beam {ms ml : Nat → Int} {sz : Int} {ph od : Nat → Int} {pi : Nat → Int64} {se : Nat → Int} {Φ : (Nat → Int) → Prop} (hG : zG ms sz ph od pi se) (h : ∀ g : Nat → Int, (∀ k : Nat, k < 64 → g k = zlit sz od se k) → Φ g) : wp_X5_beam ms ml Φ := by
  obtain ⟨hR, ho, hs, hph⟩ := hG
  obtain ⟨s0, s1, -⟩ := hs
  have ho0 := ho.1
  unfold wp_X5_beam
  refine zl2 (fun i g => 0 ≤ i ∧ i ≤ 64 ∧ ∀ k : Nat, (k : Int) < i → g k = -9) (fun i g => 64 - i) (fun n i g hi ih => ?_) _ _ ⟨by omega, by omega, fun k hk => absurd hk (by omega)⟩
  obtain ⟨h1, h2, h3⟩ := hi
  unfold wp_X5_beam_2
  refine ⟨⟨(qR_i (by omega) (by omega)), (qR_i (by omega) (by omega))⟩, fun c => ?_, fun c => ⟨⟨by omega, by omega⟩, fun g13 e13 v14 e14 => ?_⟩⟩
  · refine zl4 (fun a b i g => 0 ≤ i ∧ i ≤ sz ∧ a = zA od (se 1) i.toNat ∧ b = zprev od i.toNat ∧ ∀ k : Nat, k < 64 → g k = zlitN od se i.toNat k) (fun a b i g => sz - i) (fun n a b i g hi ih => ?_) _ _ _ _ ⟨by omega, by omega, rfl, rfl, fun k hk => h3 k (by omega)⟩
    obtain ⟨i1, i2, i3, i4, i5⟩ := hi
    unfold wp_X5_beam_28
    refine ⟨by decide, fun v3 e3 => ?_⟩
    have e3 : v3 = sz := e3.trans hR.2.1
    refine ⟨⟨(qR_i (by omega) (by omega)), (qR_i (by omega) (by omega))⟩, fun c => h g (fun k hk => ?_), fun c => s_X5_spotAt hR ⟨by omega, by omega⟩ ?_⟩
    · rw [i5 k hk, show i.toNat = sz.toNat by omega]
      rfl
    · have hv := ho.2.1 i.toNat (by omega)
      have hf := zprev_b ho (n := i.toNat) (by omega)
      rw [← i4] at hf
      refine s_X5_way hf hv ⟨by decide, fun v7 e7 v8 e8 => s_X5_spotAt hR ⟨by omega, by omega⟩ ⟨by decide, fun v10 e10 => ?_⟩⟩
      have e7 : v7 = se 1 := e7.trans (hR.1 1 (by decide))
      have e10 : v10 = se 0 := e10.trans (hR.1 0 (by decide))
      have e8' : v8 = zA od (se 1) (i.toNat + 1) := by rw [e8, e7, zA, ← i3, ← i4]
      have hA := zA_b ho s1 (i.toNat + 1) (by omega)
      have cont : ∀ w : Int, w = (if v8 < se 0 then v8 else -9) → wp_X5_beam_87 Φ (wp_X5_beam_28 Φ ms n) v8 (od i.toNat) i (od i.toNat) w ms g := by
        intro w ew
        unfold wp_X5_beam_87
        refine ⟨⟨by omega, by omega⟩, fun g1 e1 v2 e2 => ?_⟩
        rw [e2]
        refine ih _ _ _ _ ⟨by omega, by omega, ?_, ?_, fun k hk => ?_⟩ (show (sz - (i + 1)).toNat < (sz - i).toNat by omega)
        · rw [show (i + 1).toNat = i.toNat + 1 by omega]
          exact e8'
        · rw [show (i + 1).toNat = i.toNat + 1 by omega, zprev, if_neg (by omega)]
          rfl
        · rw [e1]
          unfold qU zlitN
          rw [zpos_s i1]
          by_cases z : k = (od i.toNat).toNat
          · rw [if_pos z, if_pos (show od i.toNat = (k : Int) by omega), if_neg (show ¬ i = -9 by omega), ew, e8', show (i + 1).toNat = i.toNat + 1 by omega]
          · rw [if_neg z, if_neg (show ¬ od i.toNat = (k : Int) by omega), i5 k hk]
            rfl
      refine ⟨⟨(qR_i (by omega) (by omega)), (qR_i (by omega) (by omega))⟩, fun c2 => cont _ ?_, fun c2 => cont _ ?_⟩
      · rw [if_neg (by omega)]
      · rw [if_pos (by omega)]
  · rw [e14]
    refine ih _ _ ⟨by omega, by omega, fun k hk => ?_⟩ (show (64 - (i + 1)).toNat < (64 - i).toNat by omega)
    rw [e13]
    unfold qU
    split
    · rfl
    · exact h3 k (by omega)
