/-! PURE 3: loops in general; the class's screen, reading -/
theorem zl1 {A : Type} {W : Nat → A → Prop} (I : A → Prop) (μ : A → Int) (step : ∀ n a, I a → (∀ a', I a' → (μ a').toNat < (μ a).toNat → W n a') → W (n + 1) a) (a : A) (h : I a) : ∃ n : Nat, W n a := by
  have key : ∀ m : Nat, ∀ a : A, I a → (μ a).toNat ≤ m → W (m + 1) a := by
    intro m
    induction m with
    | zero => exact fun a ha hm => step 0 a ha (fun a' _ h2 => by omega)
    | succ m ih => exact fun a ha hm => step (m + 1) a ha (fun a' h1 h2 => ih a' h1 (by omega))
  exact ⟨_, key (μ a).toNat a h (Nat.le_refl _)⟩
theorem zl2 {A B : Type} {W : Nat → A → B → Prop} (I : A → B → Prop) (μ : A → B → Int) (step : ∀ n a b, I a b → (∀ a' b', I a' b' → (μ a' b').toNat < (μ a b).toNat → W n a' b') → W (n + 1) a b) (a : A) (b : B) (h : I a b) : ∃ n : Nat, W n a b :=
  zl1 (W := fun n (s : A × B) => W n s.1 s.2) (fun s => I s.1 s.2) (fun s => μ s.1 s.2) (fun n s hs ih => step n s.1 s.2 hs (fun a' b' => ih (a', b'))) (a, b) h
theorem zl3 {A B C : Type} {W : Nat → A → B → C → Prop} (I : A → B → C → Prop) (μ : A → B → C → Int) (step : ∀ n a b c, I a b c → (∀ a' b' c', I a' b' c' → (μ a' b' c').toNat < (μ a b c).toNat → W n a' b' c') → W (n + 1) a b c) (a : A) (b : B) (c : C) (h : I a b c) : ∃ n : Nat, W n a b c :=
  zl1 (W := fun n (s : A × B × C) => W n s.1 s.2.1 s.2.2) (fun s => I s.1 s.2.1 s.2.2) (fun s => μ s.1 s.2.1 s.2.2) (fun n s hs ih => step n s.1 s.2.1 s.2.2 hs (fun a' b' c' => ih (a', b', c'))) (a, b, c) h
theorem zl4 {A B C D : Type} {W : Nat → A → B → C → D → Prop} (I : A → B → C → D → Prop) (μ : A → B → C → D → Int) (step : ∀ n a b c d, I a b c d → (∀ a' b' c' d', I a' b' c' d' → (μ a' b' c' d').toNat < (μ a b c d).toNat → W n a' b' c' d') → W (n + 1) a b c d) (a : A) (b : B) (c : C) (d : D) (h : I a b c d) : ∃ n : Nat, W n a b c d :=
  zl1 (W := fun n (s : A × B × C × D) => W n s.1 s.2.1 s.2.2.1 s.2.2.2) (fun s => I s.1 s.2.1 s.2.2.1 s.2.2.2) (fun s => μ s.1 s.2.1 s.2.2.1 s.2.2.2) (fun n s hs ih => step n s.1 s.2.1 s.2.2.1 s.2.2.2 hs (fun a' b' c' d' => ih (a', b', c', d'))) (a, b, c, d) h
theorem zl5 {A B C D E : Type} {W : Nat → A → B → C → D → E → Prop} (I : A → B → C → D → E → Prop) (μ : A → B → C → D → E → Int) (step : ∀ n a b c d e, I a b c d e → (∀ a' b' c' d' e', I a' b' c' d' e' → (μ a' b' c' d' e').toNat < (μ a b c d e).toNat → W n a' b' c' d' e') → W (n + 1) a b c d e) (a : A) (b : B) (c : C) (d : D) (e : E) (h : I a b c d e) : ∃ n : Nat, W n a b c d e :=
  zl1 (W := fun n (s : A × B × C × D × E) => W n s.1 s.2.1 s.2.2.1 s.2.2.2.1 s.2.2.2.2) (fun s => I s.1 s.2.1 s.2.2.1 s.2.2.2.1 s.2.2.2.2) (fun s => μ s.1 s.2.1 s.2.2.1 s.2.2.2.1 s.2.2.2.2) (fun n s hs ih => step n s.1 s.2.1 s.2.2.1 s.2.2.2.1 s.2.2.2.2 hs (fun a' b' c' d' e' => ih (a', b', c', d', e'))) (a, b, c, d, e) h
/-- the first tick from a on at which a phosphor is darker than a bound -/
def zabvN (ph bound : Int) : Nat → Int → Int
  | 0, a => a
  | n + 1, a => if zglow ph a < bound then a else zabvN ph bound n (a + 1)
def zabv (ph bound : Int) : Int := zabvN ph bound 40 0
theorem zglow_35 {ph : Int} : zglow ph 35 = 0 := by
  unfold zglow
  split
  · rfl
  · split
    · rfl
    · split <;> rfl
theorem zabvN_s {ph bound a : Int} (ha : 0 ≤ a ∧ a ≤ 35) : zabvN ph bound (40 - a).toNat a = if zglow ph a < bound then a else zabvN ph bound (40 - (a + 1)).toNat (a + 1) := by
  rw [show (40 - a).toNat = (40 - (a + 1)).toNat + 1 by omega]
  rfl
theorem zabvN_b {ph bound : Int} (hb : 1 ≤ bound) : ∀ (m : Nat) (a : Int), 0 ≤ a → a ≤ 35 → (35 - a).toNat = m → 0 ≤ zabvN ph bound (40 - a).toNat a ∧ zabvN ph bound (40 - a).toNat a ≤ 35 := by
  intro m
  induction m with
  | zero =>
    intro a h1 h2 h3
    have : a = 35 := by omega
    subst this
    rw [zabvN_s ⟨by omega, by omega⟩, if_pos (by rw [zglow_35]; omega)]
    omega
  | succ m ih =>
    intro a h1 h2 h3
    rw [zabvN_s ⟨by omega, by omega⟩]
    split
    · omega
    · exact ih (a + 1) (by omega) (by omega) (by omega)
theorem zabv_b {ph bound : Int} (hb : 1 ≤ bound) : 0 ≤ zabv ph bound ∧ zabv ph bound ≤ 35 := zabvN_b hb 35 0 (by omega) (by omega) (by omega)
theorem s_X4_ticksAbove {ph bound : Int} {Φ : Int → Prop} (hp : 0 ≤ ph ∧ ph ≤ 3) (hb : 1 ≤ bound ∧ bound ≤ 100) (h : Φ (zabv ph bound)) : wp_X4_ticksAbove ph bound Φ := by
  unfold wp_X4_ticksAbove
  refine zl1 (fun a => 0 ≤ a ∧ a ≤ 35 ∧ Φ (zabvN ph bound (40 - a).toNat a)) (fun a => 40 - a) (fun n a hi ih => ?_) 0 ⟨by omega, by omega, h⟩
  obtain ⟨h1, h2, h3⟩ := hi
  rw [zabvN_s ⟨h1, h2⟩] at h3
  unfold wp_X4_ticksAbove_2 wp_X4_ticksAbove_24
  have hg := zglow_b (ph := ph) h1
  refine ⟨⟨(qR_i (by omega) (by omega)), (qR_i (by omega) (by omega))⟩, fun c => absurd c (by omega), fun c => s_X4_glow hp ⟨by omega, by omega⟩ ⟨⟨(qR_i (by omega) (by omega)), (qR_i (by omega) (by omega))⟩, fun c2 => ?_, fun c2 v4 e4 => ?_⟩⟩
  · rwa [if_pos c2] at h3
  · rw [if_neg c2] at h3
    have h35 : a ≠ 35 := fun z => by
      subst z
      rw [zglow_35] at c2
      omega
    rw [e4]
    refine ih _ ⟨by omega, by omega, h3⟩ ?_
    show (40 - (a + 1)).toNat < (40 - a).toNat
    omega
/-- the first of 64 at which f is 1 -/
def zfstN (f : Nat → Int) : Nat → Nat → Int
  | 0, _ => -9
  | n + 1, k => if f k = 1 then (k : Int) else zfstN f n (k + 1)
def zfst (f : Nat → Int) : Int := zfstN f 64 0
theorem zfstN_c {f g : Nat → Int} (h : ∀ k : Nat, k < 64 → f k = g k) : ∀ n k : Nat, n + k ≤ 64 → zfstN f n k = zfstN g n k
  | 0, _, _ => rfl
  | n + 1, k, hk => by
    rw [zfstN, zfstN, h k (by omega), zfstN_c h n (k + 1) (by omega)]
theorem zfst_c {f g : Nat → Int} (h : ∀ k : Nat, k < 64 → f k = g k) : zfst f = zfst g := zfstN_c h 64 0 (by omega)
theorem zfstN_s {f : Nat → Int} {a : Int} (ha : 0 ≤ a ∧ a < 64) : zfstN f (64 - a).toNat a.toNat = if f a.toNat = 1 then a else zfstN f (64 - (a + 1)).toNat (a + 1).toNat := by
  rw [show (64 - a).toNat = (64 - (a + 1)).toNat + 1 by omega, show (a + 1).toNat = a.toNat + 1 by omega, zfstN, show ((a.toNat : Nat) : Int) = a by omega]
theorem s_X4_firstOf {x : Int64} {Φ : Int → Prop} (h : Φ (zfst (zb x))) : wp_X4_firstOf x Φ := by
  unfold wp_X4_firstOf
  refine zl1 (fun a => 0 ≤ a ∧ a ≤ 64 ∧ Φ (zfstN (zb x) (64 - a).toNat a.toNat)) (fun a => 64 - a) (fun n a hi ih => ?_) 0 ⟨by omega, by omega, by exact h⟩
  obtain ⟨h1, h2, h3⟩ := hi
  unfold wp_X4_firstOf_2
  refine ⟨⟨(qR_i (by omega) (by omega)), (qR_i (by omega) (by omega))⟩, fun c => ?_, fun c => ?_⟩
  · have : a = 64 := by omega
    subst this
    exact h3
  · rw [zfstN_s ⟨by omega, by omega⟩] at h3
    have h01 := zb_01 x a.toNat
    refine s_X4_bit ⟨by omega, by omega⟩ ⟨⟨(qR_i (by omega) (by omega)), (qR_i (by omega) (by omega))⟩, fun c2 v4 e4 => ?_, fun c2 => ?_⟩
    · rw [if_neg c2] at h3
      rw [e4]
      exact ih _ ⟨by omega, by omega, h3⟩ (show (64 - (a + 1)).toNat < (64 - a).toNat by omega)
    · rwa [if_pos (by omega)] at h3
/-- how many spots are lit -/
def zlszN (od se : Nat → Int) : Nat → Nat → Int
  | 0, i => i
  | n + 1, i => if zA od (se 1) (i + 1) < se 0 then zlszN od se n (i + 1) else (i : Int)
def zlsz (sz : Int) (od se : Nat → Int) : Int := zlszN od se sz.toNat 0
theorem s_X1_litSize {sz : Int} {od se : Nat → Int} {Φ : Int → Prop} (ho : zOk sz od) (hs : zSe se) (h : Φ (zlsz sz od se)) : wp_X1_litSize sz od se Φ := by
  unfold wp_X1_litSize
  have ho0 := ho.1
  have hs' := hs
  obtain ⟨s0, s1, -⟩ := hs'
  refine zl1 (fun a => 0 ≤ a ∧ a ≤ sz ∧ Φ (zlszN od se (sz - a).toNat a.toNat)) (fun a => sz - a) (fun n a hi ih => ?_) 0 ⟨by omega, by omega, by rw [show (sz - 0).toNat = sz.toNat by omega]; exact h⟩
  obtain ⟨h1, h2, h3⟩ := hi
  unfold wp_X1_litSize_2 wp_X1_litSize_30
  refine ⟨⟨(qR_i (by omega) (by omega)), (qR_i (by omega) (by omega))⟩, fun c => ?_, fun c => ?_⟩
  · rw [show (sz - a).toNat = 0 by omega, zlszN, show ((a.toNat : Nat) : Int) = a by omega] at h3
    exact h3
  · rw [show (sz - a).toNat = (sz - (a + 1)).toNat + 1 by omega, zlszN, show ((a.toNat : Nat) : Int) = a by omega] at h3
    have hb := zA_b ho s1 (a + 1).toNat (by omega)
    rw [show (a + 1).toNat = a.toNat + 1 by omega] at hb
    refine s_X1_arrival ho s1 ⟨by omega, by omega⟩ ⟨by decide, fun v3 e3 => ?_⟩
    have e3 : v3 = se 0 := e3
    rw [show (a + 1).toNat = a.toNat + 1 by omega]
    refine ⟨⟨(qR_i (by omega) (by omega)), (qR_i (by omega) (by omega))⟩, fun c2 => ?_, fun c2 v5 e5 => ?_⟩
    · rwa [if_neg (by omega)] at h3
    · rw [if_pos (by omega)] at h3
      rw [e5]
      exact ih _ ⟨by omega, by omega, by rw [show (a + 1).toNat = a.toNat + 1 by omega]; exact h3⟩ (show (sz - (a + 1)).toNat < (sz - a).toNat by omega)
/-- greatest and smallest of f over the first n ticks -/
def zmx (f : Int → Int) : Nat → Int
  | 0 => 0
  | n + 1 => if zmx f n < f n then f n else zmx f n
def zmn (f : Int → Int) : Nat → Int
  | 0 => 100
  | n + 1 => if f n < zmn f n then f n else zmn f n
theorem zmx_b {f : Int → Int} {m : Int} (h : ∀ t, 0 ≤ t → t < m → 0 ≤ f t ∧ f t ≤ 100) : ∀ n : Nat, (n : Int) ≤ m → (0 ≤ zmx f n ∧ zmx f n ≤ 100) ∧ 0 ≤ zmn f n ∧ zmn f n ≤ 100
  | 0, _ => by simp [zmx, zmn]
  | n + 1, hn => by
    have ih := zmx_b h n (by omega)
    have := h n (by omega) (by omega)
    simp only [zmx, zmn]
    constructor <;> (split <;> omega)
theorem s_X1_flicker {spot sz : Int} {ph od se : Nat → Int} {Φ : Int → Prop} (hsp : 0 ≤ spot ∧ spot < 64) (hph : zPh ph) (ho : zOk sz od) (hs : zSe se) (h : Φ (zmx (zshine ph (se 0) (zlit sz od se spot) spot) (se 0).toNat - zmn (zshine ph (se 0) (zlit sz od se spot) spot) (se 0).toNat)) : wp_X1_flicker spot sz ph od se Φ := by
  have hs' := hs
  obtain ⟨s0, s1, -⟩ := hs'
  have hl := zlit_b ho s1 spot
  unfold wp_X1_flicker
  refine s_X1_litTick ho hs (qR_i (by omega) (by omega)) ?_
  have hf : ∀ t, 0 ≤ t → t < se 0 → 0 ≤ zshine ph (se 0) (zlit sz od se spot) spot t ∧ zshine ph (se 0) (zlit sz od se spot) spot t ≤ 100 := fun t h1 h2 => zshine_b (by omega) hl ⟨h1, h2⟩
  refine s_X1_shine hsp hph hs hl ⟨by omega, by omega⟩ ?_
  generalize hfd : zshine ph (se 0) (zlit sz od se spot) spot = f at hf h ⊢
  have f0 := hf 0 (by omega) (by omega)
  refine zl3 (fun a b c => 1 ≤ c ∧ c ≤ se 0 ∧ a = zmx f c.toNat ∧ b = zmn f c.toNat) (fun a b c => se 0 - c) (fun n a b c hi ih => ?_) _ _ _ ⟨by omega, by omega, ?_, ?_⟩
  · obtain ⟨h1, h2, h3, h4⟩ := hi
    have hb := zmx_b hf c.toNat (by omega)
    unfold wp_X1_flicker_20
    refine ⟨by decide, fun v1 e1 => ?_⟩
    have e1 : v1 = se 0 := e1
    refine ⟨⟨(qR_i (by omega) (by omega)), (qR_i (by omega) (by omega))⟩, fun c1 => ?_, fun c1 => ?_⟩
    · rw [h3, h4, show c.toNat = (se 0).toNat by omega]
      exact h
    · refine s_X1_shine hsp hph hs hl ⟨by omega, by omega⟩ ?_
      rw [hfd]
      have fc := hf c (by omega) (by omega)
      refine ⟨⟨(qR_i (by omega) (by omega)), (qR_i (by omega) (by omega))⟩, fun v4 e4 => ⟨⟨(qR_i (by omega) (by omega)), (qR_i (by omega) (by omega))⟩, fun v5 e5 v6 e6 => ?_⟩⟩
      rw [e6]
      refine ih _ _ _ ⟨by omega, by omega, ?_, ?_⟩ (show (se 0 - (c + 1)).toNat < (se 0 - c).toNat by omega)
      · rw [show (c + 1).toNat = c.toNat + 1 by omega, zmx, ← h3, show ((c.toNat : Nat) : Int) = c by omega]
        exact e4
      · rw [show (c + 1).toNat = c.toNat + 1 by omega, zmn, ← h4, show ((c.toNat : Nat) : Int) = c by omega]
        exact e5
  · rw [show (1 : Int).toNat = 0 + 1 by rfl, zmx, zmx]
    show f 0 = if (0 : Int) < f 0 then f 0 else 0
    split <;> omega
  · rw [show (1 : Int).toNat = 0 + 1 by rfl, zmn, zmn]
    show f 0 = if f 0 < (100 : Int) then f 0 else 100
    split <;> omega
