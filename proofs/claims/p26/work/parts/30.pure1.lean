/-! PURE 1: numbers of the screen: ways, arrivals, fading, means; the class's reading methods -/
theorem qR_i {a : Int} (h1 : -2147483648 ≤ a) (h2 : a < 2147483648) : qR a := ⟨h1, h2⟩
theorem qP_i {a b : Int} (h1 : 0 ≤ a) (h2 : a < 2147483648) (h3 : 0 < b) (h4 : b < 2147483648) : qP a b := ⟨⟨h1, h2⟩, h3, h4⟩
def zway (a b : Int) : Int := (if 0 ≤ (a / 8 - b / 8) then (a / 8 - b / 8) else 0 - (a / 8 - b / 8)) + (if 0 ≤ (a % 8 - b % 8) then (a % 8 - b % 8) else 0 - (a % 8 - b % 8))
theorem zway_b {a b : Int} (ha : 0 ≤ a ∧ a < 64) (hb : 0 ≤ b ∧ b < 64) : 0 ≤ zway a b ∧ zway a b ≤ 14 := by
  unfold zway
  constructor <;> (split <;> split <;> omega)
def zprev (od : Nat → Int) (n : Nat) : Int := if n = 0 then 0 else od (n - 1)
def zA (od : Nat → Int) (pace : Int) : Nat → Int
  | 0 => 0
  | n + 1 => zA od pace n + ((zway (zprev od n) (od n) * pace) + 1)
def zS (od : Nat → Int) : Nat → Int
  | 0 => 0
  | n + 1 => zS od n + zway (zprev od n) (od n)
def zOk (sz : Int) (od : Nat → Int) : Prop := (0 ≤ sz ∧ sz ≤ 12) ∧ (∀ k : Nat, (k : Int) < sz → 0 ≤ od k ∧ od k < 64) ∧ ∀ i j : Nat, (i : Int) < sz → (j : Int) < sz → od i = od j → i = j
def zSe (se : Nat → Int) : Prop := (8 ≤ se 0 ∧ se 0 ≤ 200) ∧ (1 ≤ se 1 ∧ se 1 ≤ 4) ∧ (1 ≤ se 2 ∧ se 2 ≤ 100) ∧ (0 ≤ se 3 ∧ se 3 ≤ 199) ∧ (1 ≤ se 4 ∧ se 4 ≤ 50) ∧ (1 ≤ se 5 ∧ se 5 ≤ 100)
def zPh (ph : Nat → Int) : Prop := ∀ k : Nat, k < 64 → 0 ≤ ph k ∧ ph k ≤ 3
theorem zprev_b {sz : Int} {od : Nat → Int} (ho : zOk sz od) {n : Nat} (hn : (n : Int) ≤ sz) : 0 ≤ zprev od n ∧ zprev od n < 64 := by
  unfold zprev
  by_cases h : n = 0
  · rw [if_pos h]; omega
  · rw [if_neg h]
    exact ho.2.1 (n - 1) (by omega)
theorem zA_b {sz : Int} {od : Nat → Int} (ho : zOk sz od) {pace : Int} (hp : 1 ≤ pace ∧ pace ≤ 4) : ∀ n : Nat, (n : Int) ≤ sz → (n : Int) ≤ zA od pace n ∧ zA od pace n ≤ 57 * n
  | 0, _ => by simp [zA]
  | n + 1, hn => by
    have ih := zA_b ho hp n (by omega)
    have hw := zway_b (zprev_b ho (n := n) (by omega)) (ho.2.1 n (by omega))
    have h1 : 0 ≤ zway (zprev od n) (od n) * pace := Int.mul_nonneg hw.1 (by omega)
    have h2 : zway (zprev od n) (od n) * pace ≤ 14 * 4 := Int.mul_le_mul hw.2 hp.2 (by omega) (by omega)
    simp only [zA]
    omega
theorem zA_mono {sz : Int} {od : Nat → Int} (ho : zOk sz od) {pace : Int} (hp : 1 ≤ pace ∧ pace ≤ 4) {n : Nat} : ∀ m : Nat, n ≤ m → (m : Int) ≤ sz → zA od pace n ≤ zA od pace m
  | 0, h, _ => by
    have : n = 0 := by omega
    subst this
    exact Int.le_refl _
  | m + 1, h, hm => by
    by_cases e : n = m + 1
    · rw [e]; exact Int.le_refl _
    · have ih := zA_mono ho hp (n := n) m (by omega) (by omega)
      have hw := zway_b (zprev_b ho (n := m) (by omega)) (ho.2.1 m (by omega))
      have h1 : 0 ≤ zway (zprev od m) (od m) * pace := Int.mul_nonneg hw.1 (by omega)
      simp only [zA]
      omega
theorem zS_b {sz : Int} {od : Nat → Int} (ho : zOk sz od) : ∀ n : Nat, (n : Int) ≤ sz → 0 ≤ zS od n ∧ zS od n ≤ 14 * n
  | 0, _ => by simp [zS]
  | n + 1, hn => by
    have ih := zS_b ho n (by omega)
    have hw := zway_b (zprev_b ho (n := n) (by omega)) (ho.2.1 n (by omega))
    simp only [zS]
    omega

/-- the last place of a spot among the first n -/
def zposN (od : Nat → Int) (spot : Int) : Nat → Int
  | 0 => -9
  | n + 1 => if od n = spot then (n : Int) else zposN od spot n
def zpos (sz : Int) (od : Nat → Int) (spot : Int) : Int := zposN od spot sz.toNat
theorem zposN_none {od : Nat → Int} {spot : Int} : ∀ n : Nat, (∀ k : Nat, k < n → od k ≠ spot) → zposN od spot n = -9
  | 0, _ => rfl
  | n + 1, h => by
    rw [zposN, if_neg (h n (by omega))]
    exact zposN_none n (fun k hk => h k (by omega))
theorem zposN_some {od : Nat → Int} {spot : Int} {k : Nat} (hk : od k = spot) : ∀ n : Nat, k < n → (∀ j : Nat, j < n → od j = spot → j = k) → zposN od spot n = (k : Int)
  | 0, h, _ => by omega
  | n + 1, h, hu => by
    rw [zposN]
    by_cases e : od n = spot
    · rw [if_pos e, hu n (by omega) e]
    · rw [if_neg e]
      have hkn : k ≠ n := fun z => e (by rw [← z]; exact hk)
      exact zposN_some hk n (by omega) (fun j hj => hu j (by omega))
theorem zposN_cases (od : Nat → Int) (spot : Int) : ∀ n : Nat, (zposN od spot n = -9 ∧ ∀ k : Nat, k < n → od k ≠ spot) ∨ ∃ k : Nat, k < n ∧ od k = spot ∧ zposN od spot n = (k : Int)
  | 0 => Or.inl ⟨rfl, fun k h => by omega⟩
  | n + 1 => by
    rw [zposN]
    by_cases e : od n = spot
    · rw [if_pos e]; exact Or.inr ⟨n, by omega, e, rfl⟩
    · rw [if_neg e]
      rcases zposN_cases od spot n with ⟨h1, h2⟩ | ⟨k, h1, h2, h3⟩
      · refine Or.inl ⟨h1, fun k hk => ?_⟩
        by_cases z : k = n
        · rw [z]; exact e
        · exact h2 k (by omega)
      · exact Or.inr ⟨k, by omega, h2, h3⟩
theorem zpos_none {sz : Int} {od : Nat → Int} {spot : Int} (h : ∀ k : Nat, (k : Int) < sz → od k ≠ spot) : zpos sz od spot = -9 := zposN_none _ (fun k hk => h k (by omega))
theorem zpos_some {sz : Int} {od : Nat → Int} {spot : Int} (ho : zOk sz od) {k : Nat} (hk : (k : Int) < sz) (e : od k = spot) : zpos sz od spot = (k : Int) := zposN_some e _ (by omega) (fun j hj hj2 => ho.2.2 j k (by omega) hk (hj2.trans e.symm))
theorem zpos_cases (sz : Int) (od : Nat → Int) (spot : Int) : (zpos sz od spot = -9 ∧ ∀ k : Nat, (k : Int) < sz → od k ≠ spot) ∨ ∃ k : Nat, (k : Int) < sz ∧ od k = spot ∧ zpos sz od spot = (k : Int) := by
  rcases zposN_cases od spot sz.toNat with ⟨h1, h2⟩ | ⟨k, h1, h2, h3⟩
  · exact Or.inl ⟨h1, fun k hk => h2 k (by omega)⟩
  · exact Or.inr ⟨k, by omega, h2, h3⟩
theorem zpos_b (sz : Int) (od : Nat → Int) (spot : Int) : zpos sz od spot = -9 ∨ (0 ≤ zpos sz od spot ∧ zpos sz od spot < sz) := by
  rcases zpos_cases sz od spot with ⟨h, -⟩ | ⟨k, h1, h2, h3⟩
  · exact Or.inl h
  · exact Or.inr (by omega)
theorem s_X4_isSpot {x : Int} {Φ : Int → Prop} (hx : qR x) (h : Φ (if 0 ≤ x ∧ x < 64 then 1 else 0)) : wp_X4_isSpot x Φ := by
  unfold wp_X4_isSpot wp_X4_isSpot_14 wp_X4_isSpot_15
  refine ⟨hx, fun c => ⟨Or.inl rfl, ?_⟩, fun c => ⟨⟨hx, by decide⟩, fun c2 => ⟨Or.inl rfl, ?_⟩, fun c2 => ⟨Or.inr rfl, ?_⟩⟩⟩
  · rwa [if_neg (by omega)] at h
  · rwa [if_neg (by omega)] at h
  · rwa [if_pos (by omega)] at h
theorem s_X4_isPhosphor {x : Int} {Φ : Int → Prop} (hx : qR x) (h : Φ (if 0 ≤ x ∧ x < 4 then 1 else 0)) : wp_X4_isPhosphor x Φ := by
  unfold wp_X4_isPhosphor wp_X4_isPhosphor_13 wp_X4_isPhosphor_14
  refine ⟨hx, fun c => ⟨Or.inl rfl, ?_⟩, fun c => ⟨⟨hx, by decide⟩, fun c2 => ⟨Or.inl rfl, ?_⟩, fun c2 => ⟨Or.inr rfl, ?_⟩⟩⟩
  · rwa [if_neg (by omega)] at h
  · rwa [if_neg (by omega)] at h
  · rwa [if_pos (by omega)] at h
theorem s_X4_way {a b : Int} {Φ : Int → Prop} (ha : 0 ≤ a ∧ a < 64) (hb : 0 ≤ b ∧ b < 64) (h : Φ (zway a b)) : wp_X4_way a b Φ := by
  unfold wp_X4_way
  refine ⟨qP_i (by omega) (by omega) (by omega) (by omega), fun v1 e1 => ⟨qP_i (by omega) (by omega) (by omega) (by omega), fun v2 e2 => ⟨qR_i (by omega) (by omega), fun v3 e3 => ⟨qP_i (by omega) (by omega) (by omega) (by omega), fun v4 e4 => ⟨qP_i (by omega) (by omega) (by omega) (by omega), fun v5 e5 => ⟨qR_i (by omega) (by omega), fun v6 e6 => ?_⟩⟩⟩⟩⟩⟩
  subst e1 e2 e4 e5
  subst e3 e6
  exact h
/-- how bright after so many ticks -/
def zglow (ph age : Int) : Int := if ph = 0 then (if 0 < 100 - 20 * age then 100 - 20 * age else 0) else if ph = 1 then (if 0 < 100 - 4 * age then 100 - 4 * age else 0) else if ph = 2 then (if age < 5 then 100 else if age < 10 then 50 else if age < 15 then 25 else if age < 20 then 12 else if age < 25 then 6 else if age < 30 then 3 else if age < 35 then 1 else 0) else if age < 8 then 100 else 0
theorem zglow_b {ph age : Int} (ha : 0 ≤ age) : 0 ≤ zglow ph age ∧ zglow ph age ≤ 100 := by
  unfold zglow
  repeat' split
  all_goals omega
theorem s_X4_glow {ph age : Int} {Φ : Int → Prop} (hp : 0 ≤ ph ∧ ph ≤ 3) (ha : 0 ≤ age ∧ age < 1000) (h : Φ (zglow ph age)) : wp_X4_glow ph age Φ := by
  unfold wp_X4_glow wp_X4_glow_80 wp_X4_glow_67
  refine ⟨qR_i (by omega) (by omega), fun c => ⟨⟨qR_i (by omega) (by omega), by decide⟩, fun c2 => ?_, fun c2 => ?_⟩, fun c => ⟨⟨by decide, qR_i (by omega) (by omega)⟩, fun v e => ?_⟩, fun c => ⟨⟨by decide, qR_i (by omega) (by omega)⟩, fun v e => ?_⟩, fun c => ⟨⟨qR_i (by omega) (by omega), by decide⟩, fun c2 => ?_, fun c2 => ⟨qP_i (by omega) (by omega) (by omega) (by omega), fun v e v2 e2 => ?_⟩⟩⟩
  · unfold zglow at h
    rwa [if_neg (by omega), if_neg (by omega), if_neg (by omega), if_neg (by omega)] at h
  · unfold zglow at h
    rwa [if_neg (by omega), if_neg (by omega), if_neg (by omega), if_pos (by omega)] at h
  · unfold zglow at h
    rw [if_pos c] at h
    rw [e]; exact h
  · unfold zglow at h
    rw [if_neg (by omega), if_pos c] at h
    rw [e]; exact h
  · have e9 : zglow ph age = 0 := by
      unfold zglow
      rw [if_neg (by omega), if_neg (by omega), if_pos c, if_neg (by omega), if_neg (by omega), if_neg (by omega), if_neg (by omega), if_neg (by omega), if_neg (by omega), if_neg (by omega)]
    rw [e9] at h; exact h
  · have e9 : v2 = zglow ph age := by
      unfold zglow
      rw [if_neg (by omega), if_neg (by omega), if_pos c]
      rcases (show v = 0 ∨ v = 1 ∨ v = 2 ∨ v = 3 ∨ v = 4 ∨ v = 5 ∨ v = 6 by omega) with q | q | q | q | q | q | q <;> subst q <;> rw [e2]
      · rw [if_pos (by omega)]; decide +kernel
      · rw [if_neg (by omega), if_pos (by omega)]; decide +kernel
      · rw [if_neg (by omega), if_neg (by omega), if_pos (by omega)]; decide +kernel
      · rw [if_neg (by omega), if_neg (by omega), if_neg (by omega), if_pos (by omega)]; decide +kernel
      · rw [if_neg (by omega), if_neg (by omega), if_neg (by omega), if_neg (by omega), if_pos (by omega)]; decide +kernel
      · rw [if_neg (by omega), if_neg (by omega), if_neg (by omega), if_neg (by omega), if_neg (by omega), if_pos (by omega)]; decide +kernel
      · rw [if_neg (by omega), if_neg (by omega), if_neg (by omega), if_neg (by omega), if_neg (by omega), if_neg (by omega), if_pos (by omega)]; decide +kernel
    rw [e9]; exact h
theorem s_X1_positionOf {spot sz : Int} {od : Nat → Int} {Φ : Int → Prop} (ho : zOk sz od) (hs : qR spot) (h : Φ (zpos sz od spot)) : wp_X1_positionOf spot sz od Φ := by
  have ho' := ho
  obtain ⟨⟨h0, h1⟩, hr, hd⟩ := ho'
  have key : ∀ (m : Nat) (i : Int), 0 ≤ i → i ≤ sz → (sz - i).toNat = m → (∀ k : Nat, (k : Int) < i → od k ≠ spot) → wp_X1_positionOf_2 Φ spot sz od (m + 1) i := by
    intro m
    induction m with
    | zero =>
      intro i a b e hn
      unfold wp_X1_positionOf_2
      refine ⟨⟨qR_i (by omega) (by omega), qR_i (by omega) (by omega)⟩, fun c => ?_, fun c => absurd (show sz ≤ i by omega) c⟩
      rw [zpos_none (fun k hk => hn k (by omega))] at h
      exact h
    | succ m ih =>
      intro i a b e hn
      unfold wp_X1_positionOf_2
      refine ⟨⟨qR_i (by omega) (by omega), qR_i (by omega) (by omega)⟩, fun c => ?_, fun c => ⟨⟨by omega, by omega⟩, fun v ev => ⟨⟨?_, hs⟩, fun c2 v2 ev2 => ?_, fun c2 => ?_⟩⟩⟩
      · rw [zpos_none (fun k hk => hn k (by omega))] at h
        exact h
      · have := hr i.toNat (by omega)
        exact qR_i (by omega) (by omega)
      · refine ih v2 (by omega) (by omega) (by omega) (fun k hk => ?_)
        by_cases z : (k : Int) = i
        · have : i.toNat = k := by omega
          rw [← this, ← ev]; exact c2
        · exact hn k (by omega)
      · have e9 : od i.toNat = spot := by rw [← ev]; exact Classical.not_not.mp c2
        rw [zpos_some ho (k := i.toNat) (by omega) e9] at h
        rwa [show ((i.toNat : Nat) : Int) = i by omega] at h
  unfold wp_X1_positionOf
  exact ⟨_, key sz.toNat 0 (by omega) (by omega) (by omega) (fun k hk => by omega)⟩
theorem s_X1_arrival {pos sz : Int} {od se : Nat → Int} {Φ : Int → Prop} (ho : zOk sz od) (hp : 1 ≤ se 1 ∧ se 1 ≤ 4) (hq : -1 ≤ pos ∧ pos < sz) (h : Φ (zA od (se 1) (pos + 1).toNat)) : wp_X1_arrival pos sz od se Φ := by
  have h1 := ho.1
  have key : ∀ (m : Nat) (i tick frm : Int), 0 ≤ i → i ≤ pos + 1 → (pos + 1 - i).toNat = m → tick = zA od (se 1) i.toNat → frm = zprev od i.toNat → wp_X1_arrival_7 Φ pos sz od se (m + 1) tick frm i := by
    intro m
    induction m with
    | zero =>
      intro i tick frm a b e et ef
      unfold wp_X1_arrival_7 wp_X1_arrival_59
      refine ⟨⟨qR_i (by omega) (by omega), qR_i (by omega) (by omega)⟩, fun c => ?_, fun c => absurd (show pos < i by omega) c⟩
      rw [et, show i.toNat = (pos + 1).toNat by omega]
      exact h
    | succ m ih =>
      intro i tick frm a b e et ef
      have hi : ((i.toNat : Nat) : Int) = i := by omega
      unfold wp_X1_arrival_7
      refine ⟨⟨qR_i (by omega) (by omega), qR_i (by omega) (by omega)⟩, fun c => absurd c (by omega), fun c => ⟨⟨qR_i (by omega) (by omega), qR_i (by omega) (by omega)⟩, fun c2 => absurd c2 (by omega), fun c2 => ⟨⟨by omega, by omega⟩, fun v ev => ?_⟩⟩⟩
      have hv := ho.2.1 i.toNat (by omega)
      have hf := zprev_b ho (n := i.toNat) (by omega)
      rw [← ef] at hf
      rw [← ev] at hv
      refine s_X4_way hf hv ⟨by decide, fun v5 e5 v6 e6 => ⟨⟨by omega, by omega⟩, fun v7 e7 v8 e8 => ?_⟩⟩
      refine ih v8 v6 v7 (by omega) (by omega) (by omega) ?_ ?_
      · rw [show v8.toNat = i.toNat + 1 by omega, zA, ← et, ← ef, ← ev, e6, e5]
        rfl
      · rw [show v8.toNat = i.toNat + 1 by omega, zprev, if_neg (by omega), e7]
        simp
  unfold wp_X1_arrival
  exact ⟨_, key (pos + 1).toNat 0 0 0 (by omega) (by omega) (by omega) rfl rfl⟩
/-- the tick in which a spot is lit -/
def zlit (sz : Int) (od se : Nat → Int) (spot : Int) : Int := if zpos sz od spot = -9 then -9 else if zA od (se 1) (zpos sz od spot + 1).toNat < se 0 then zA od (se 1) (zpos sz od spot + 1).toNat else -9
theorem zlit_b {sz : Int} {od se : Nat → Int} (ho : zOk sz od) (hp : 1 ≤ se 1 ∧ se 1 ≤ 4) (spot : Int) : zlit sz od se spot = -9 ∨ (1 ≤ zlit sz od se spot ∧ zlit sz od se spot < se 0) := by
  unfold zlit
  rcases zpos_cases sz od spot with ⟨h, -⟩ | ⟨k, h1, h2, h3⟩
  · rw [if_pos h]; exact Or.inl rfl
  · rw [if_neg (by omega)]
    by_cases c : zA od (se 1) (zpos sz od spot + 1).toNat < se 0
    · rw [if_pos c]
      refine Or.inr ⟨?_, c⟩
      have := (zA_b ho hp (zpos sz od spot + 1).toNat (by omega)).1
      omega
    · rw [if_neg c]; exact Or.inl rfl
theorem s_X1_litTick {spot sz : Int} {od se : Nat → Int} {Φ : Int → Prop} (ho : zOk sz od) (hs : zSe se) (hq : qR spot) (h : Φ (zlit sz od se spot)) : wp_X1_litTick spot sz od se Φ := by
  unfold wp_X1_litTick wp_X1_litTick_26
  have h1 := ho.1
  obtain ⟨s0, s1, -⟩ := hs
  refine s_X1_positionOf ho hq ?_
  have hc := zpos_b sz od spot
  unfold zlit at h
  refine ⟨⟨qR_i (by omega) (by omega), by decide⟩, fun c => ?_, fun c => ?_⟩
  · rwa [if_pos c] at h
  · rw [if_neg c] at h
    have hr : -1 ≤ zpos sz od spot ∧ zpos sz od spot < sz := by omega
    have hb := zA_b ho s1 (zpos sz od spot + 1).toNat (by omega)
    refine s_X1_arrival ho s1 hr ⟨by decide, fun v4 e4 => ⟨⟨qR_i (by omega) (by omega), qR_i (by rw [e4]; show _ ≤ se 0; omega) (by rw [e4]; show se 0 < _; omega)⟩, fun c2 => ?_, fun c2 => ?_⟩⟩
    · have c3 : zA od (se 1) (zpos sz od spot + 1).toNat < se 0 := by rw [e4] at c2; exact c2
      rw [if_pos c3] at h
      exact s_X1_arrival ho s1 hr h
    · have c3 : ¬ zA od (se 1) (zpos sz od spot + 1).toNat < se 0 := by rw [e4] at c2; exact c2
      rwa [if_neg c3] at h
