/-! PURE 21: the model's tokens -/
def zTm (tl : Int) (tx mt : Nat → Int) : Prop := ∀ k : Nat, (k : Int) < tl → mt k = tx k
theorem s_X5_sign {k : Nat} {tl : Int} {tx mt : Nat → Int} {Φ : Int → Prop} (ht : zTx tl tx) (hm : zTm tl tx mt) (hk : k < 1000) (h : Φ (zsg tl tx k)) : wp_X5_sign (k : Int) tl mt Φ := by
  have ht1 := ht.1
  unfold wp_X5_sign wp_X5_sign_18
  refine ⟨⟨(qR_i (by omega) (by omega)), (qR_i (by omega) (by omega))⟩, fun c => ?_, fun c => ⟨⟨by omega, by omega⟩, fun v2 e2 => ?_⟩⟩
  · rwa [zsg_out (by omega)] at h
  · rw [zsg_in (by omega)] at h
    have e2 : v2 = mt k := e2
    rw [e2, hm k (by omega)]
    exact h
/-- kind and end of the token at p -/
def ztk (sg : Nat → Int) (tl : Int) (p : Nat) : Int := if zLe (sg p) = true then 1 else if zDi (sg p) = true then 2 else if (p : Int) < tl then 3 else 0
def zti (sg : Nat → Int) (tl : Int) (p : Nat) : Nat := if zLe (sg p) = true then zend zLe sg p else if zDi (sg p) = true then zend zDi sg p else if (p : Int) < tl then p + 1 else p
theorem zLe_in {c : Int} {Φ : Int → Prop} (hc : qR c) (h : Φ (if zLe c = true then 1 else 0)) : wp_X5_in c 97 122 Φ := by
  refine s_X5_in hc (by decide) (by decide) ?_
  unfold zLe at h
  rwa [zif_c (show (decide (97 ≤ c ∧ c ≤ 122) = true) ↔ (97 ≤ c ∧ c ≤ 122) from decide_eq_true_iff)] at h
theorem zDi_in {c : Int} {Φ : Int → Prop} (hc : qR c) (h : Φ (if zDi c = true then 1 else 0)) : wp_X5_in c 48 57 Φ := by
  refine s_X5_in hc (by decide) (by decide) ?_
  unfold zDi at h
  rwa [zif_c (show (decide (48 ≤ c ∧ c ≤ 57) = true) ↔ (48 ≤ c ∧ c ≤ 57) from decide_eq_true_iff)] at h
theorem s_X5_next {t0 : Nat} {tl tk fr : Int} {tx mt : Nat → Int} {Φ : Int → Int → Int → Prop} (ht : zTx tl tx) (hm : zTm tl tx mt) (h0 : (t0 : Int) ≤ tl) (h : Φ (ztk (zsg tl tx) tl (zend zSp (zsg tl tx) t0)) (zend zSp (zsg tl tx) t0 : Nat) (zti (zsg tl tx) tl (zend zSp (zsg tl tx) t0) : Nat)) : wp_X5_next tl tk fr (t0 : Int) mt Φ := by
  have ht1 := ht.1
  have hS := z140 (P := zSp) ht (by decide)
  have hL := z140 (P := zLe) ht (by decide)
  have hD := z140 (P := zDi) ht (by decide)
  unfold wp_X5_next
  refine zl1 (fun (x : Int) => ∃ k : Nat, x = k ∧ (k : Int) ≤ tl ∧ zend zSp (zsg tl tx) k = zend zSp (zsg tl tx) t0) (fun x => tl - x) (fun n x hi ih => ?_) _ ⟨t0, rfl, h0, rfl⟩
  obtain ⟨k, rfl, i1, i2⟩ := hi
  have hb := zsg_b ht k
  unfold wp_X5_next_8
  refine s_X5_sign ht hm (by omega) ⟨⟨(qR_i (by omega) (by omega)), (qR_i (by omega) (by omega))⟩, fun c => ?_, fun c v20 e20 => ?_⟩
  · rw [zend_n (by omega) hS (by unfold zSp; exact decide_eq_false c)] at i2
    rw [← i2] at h
    unfold ztk zti at h
    refine s_X5_sign ht hm (by omega) (zLe_in (qR_i (by omega) (by omega)) ?_)
    by_cases cl : zLe (zsg tl tx k) = true
    · rw [if_pos cl] at h ⊢
      rw [if_pos cl] at h
      refine ⟨(qR_i (by omega) (by omega)), fun z => absurd z (by decide), fun _ => ?_⟩
      refine zl1 (fun (y : Int) => ∃ j : Nat, y = j ∧ (j : Int) ≤ tl ∧ zend zLe (zsg tl tx) j = zend zLe (zsg tl tx) k) (fun y => tl - y) (fun n y hj ih => ?_) _ ⟨k, rfl, i1, rfl⟩
      obtain ⟨j, rfl, j1, j2⟩ := hj
      have hbj := zsg_b ht j
      unfold wp_X5_next_65 wp_X5_next_195
      refine s_X5_sign ht hm (by omega) (zLe_in (qR_i (by omega) (by omega)) ?_)
      by_cases cj : zLe (zsg tl tx j) = true
      · rw [if_pos cj]
        have hlt : (j : Int) < tl := by
          by_cases z : (j : Int) < tl
          · exact z
          · rw [zsg_out z] at cj
            exact absurd cj (by decide)
        refine ⟨(qR_i (by omega) (by omega)), fun z => absurd z (by decide), fun _ v10 e10 => ?_⟩
        rw [e10]
        rw [zend_y (by omega) hL cj] at j2
        exact ih _ ⟨j + 1, by omega, by omega, j2⟩ (show (tl - ((j : Int) + 1)).toNat < (tl - (j : Int)).toNat by omega)
      · rw [if_neg cj]
        rw [zend_n (by omega) hL (Bool.eq_false_iff.mpr cj)] at j2
        rw [← j2] at h
        exact ⟨(qR_i (by omega) (by omega)), fun _ => h, fun z => absurd rfl z⟩
    · rw [if_neg cl] at h ⊢
      rw [if_neg cl] at h
      refine ⟨(qR_i (by omega) (by omega)), fun _ => s_X5_sign ht hm (by omega) (zDi_in (qR_i (by omega) (by omega)) ?_), fun z => absurd rfl z⟩
      by_cases cd : zDi (zsg tl tx k) = true
      · rw [if_pos cd] at h ⊢
        rw [if_pos cd] at h
        refine ⟨(qR_i (by omega) (by omega)), fun z => absurd z (by decide), fun _ => ?_⟩
        refine zl1 (fun (y : Int) => ∃ j : Nat, y = j ∧ (j : Int) ≤ tl ∧ zend zDi (zsg tl tx) j = zend zDi (zsg tl tx) k) (fun y => tl - y) (fun n y hj ih => ?_) _ ⟨k, rfl, i1, rfl⟩
        obtain ⟨j, rfl, j1, j2⟩ := hj
        have hbj := zsg_b ht j
        unfold wp_X5_next_119 wp_X5_next_195
        refine s_X5_sign ht hm (by omega) (zDi_in (qR_i (by omega) (by omega)) ?_)
        by_cases cj : zDi (zsg tl tx j) = true
        · rw [if_pos cj]
          have hlt : (j : Int) < tl := by
            by_cases z : (j : Int) < tl
            · exact z
            · rw [zsg_out z] at cj
              exact absurd cj (by decide)
          refine ⟨(qR_i (by omega) (by omega)), fun z => absurd z (by decide), fun _ v10 e10 => ?_⟩
          rw [e10]
          rw [zend_y (by omega) hD cj] at j2
          exact ih _ ⟨j + 1, by omega, by omega, j2⟩ (show (tl - ((j : Int) + 1)).toNat < (tl - (j : Int)).toNat by omega)
        · rw [if_neg cj]
          rw [zend_n (by omega) hD (Bool.eq_false_iff.mpr cj)] at j2
          rw [← j2] at h
          exact ⟨(qR_i (by omega) (by omega)), fun _ => h, fun z => absurd rfl z⟩
      · rw [if_neg cd] at h ⊢
        rw [if_neg cd] at h
        unfold wp_X5_next_167 wp_X5_next_191 wp_X5_next_195
        refine ⟨(qR_i (by omega) (by omega)), fun _ => ⟨⟨(qR_i (by omega) (by omega)), (qR_i (by omega) (by omega))⟩, fun c2 => ⟨⟨(qR_i (by omega) (by omega)), (qR_i (by omega) (by omega))⟩, fun c3 v1 e1 => ?_, fun c3 => absurd c2 c3⟩, fun c2 => ⟨⟨(qR_i (by omega) (by omega)), (qR_i (by omega) (by omega))⟩, fun c3 => absurd c3 c2, fun c3 v1 e1 => ?_⟩⟩, fun z => absurd rfl z⟩
        · rw [if_neg (by omega), if_neg (by omega)] at h
          rw [e1, show (k : Int) + 0 = k by omega]
          exact h
        · rw [if_pos (by omega), if_pos (by omega)] at h
          rw [e1]
          exact h
  · have hlt : (k : Int) < tl := by
      by_cases z : (k : Int) < tl
      · exact z
      · rw [zsg_out z] at c
        exact absurd (by decide) c
    rw [zend_y (by omega) hS (by unfold zSp; exact decide_eq_true (Classical.not_not.mp c))] at i2
    rw [e20]
    exact ih _ ⟨k + 1, by omega, by omega, i2⟩ (show (tl - ((k : Int) + 1)).toNat < (tl - (k : Int)).toNat by omega)
theorem s_X5_spelled {i : Nat} {a b c d e f : Int} {Φ : Int → Prop} (hi : i < 1000) (h : Φ ([a, b, c, d, e, f].getD i 0)) : wp_X5_spelled (i : Int) a b c d e f Φ := by
  unfold wp_X5_spelled wp_X5_spelled_57
  refine ⟨(qR_i (by omega) (by omega)), fun c0 => ⟨⟨(qR_i (by omega) (by omega)), (qR_i (by omega) (by omega))⟩, fun c1 => ⟨⟨(qR_i (by omega) (by omega)), (qR_i (by omega) (by omega))⟩, fun c2 => ⟨⟨(qR_i (by omega) (by omega)), (qR_i (by omega) (by omega))⟩, fun c3 => ⟨⟨(qR_i (by omega) (by omega)), (qR_i (by omega) (by omega))⟩, fun c4 => ⟨⟨(qR_i (by omega) (by omega)), (qR_i (by omega) (by omega))⟩, fun c5 => ?_, fun c5 => ?_⟩, fun c4 => ?_⟩, fun c3 => ?_⟩, fun c2 => ?_⟩, fun c1 => ?_⟩, fun c0 => ?_⟩
  · obtain ⟨j, rfl⟩ : ∃ j : Nat, i = j + 6 := ⟨i - 6, by omega⟩
    exact h
  · have : i = 5 := by omega
    subst this
    exact h
  · have : i = 4 := by omega
    subst this
    exact h
  · have : i = 3 := by omega
    subst this
    exact h
  · have : i = 2 := by omega
    subst this
    exact h
  · have : i = 1 := by omega
    subst this
    exact h
  · have : i = 0 := by omega
    subst this
    exact h
theorem s_X5_letterOf {w i : Nat} {Φ : Int → Prop} (hw : w < 7) (hi : i < 1000) (h : Φ (zch w i)) : wp_X5_letterOf (w : Int) (i : Int) Φ := by
  unfold wp_X5_letterOf
  have pad : ∀ (l : List Int) (n : Nat), ∀ i : Nat, (l ++ List.replicate n 0).getD i 0 = l.getD i 0 := by
    intro l n
    induction l with
    | nil =>
      induction n with
      | zero => intro i; rfl
      | succ n ih =>
        intro i
        cases i with
        | zero => rfl
        | succ i =>
          have := ih i
          exact this
    | cons x l ih =>
      intro i
      cases i with
      | zero => rfl
      | succ i => exact ih i
  refine ⟨(qR_i (by omega) (by omega)), fun c => ?_, fun c => ?_, fun c => ?_, fun c => ?_, fun c => ?_, fun c => ?_, fun c => ?_⟩
  · have : w = 6 := by omega
    subst this
    exact s_X5_spelled hi (by rw [show ([115, 119, 97, 112, 0, 0] : List Int) = [115, 119, 97, 112] ++ List.replicate 2 0 by rfl, pad]; exact h)
  · have : w = 0 := by omega
    subst this
    exact s_X5_spelled hi (by rw [show ([108, 105, 103, 104, 116, 0] : List Int) = [108, 105, 103, 104, 116] ++ List.replicate 1 0 by rfl, pad]; exact h)
  · have : w = 1 := by omega
    subst this
    exact s_X5_spelled hi (by rw [show ([100, 97, 114, 107, 0, 0] : List Int) = [100, 97, 114, 107] ++ List.replicate 2 0 by rfl, pad]; exact h)
  · have : w = 2 := by omega
    subst this
    exact s_X5_spelled hi (by rw [show ([107, 105, 110, 100, 0, 0] : List Int) = [107, 105, 110, 100] ++ List.replicate 2 0 by rfl, pad]; exact h)
  · have : w = 3 := by omega
    subst this
    exact s_X5_spelled hi (by rw [show ([100, 117, 108, 108, 0, 0] : List Int) = [100, 117, 108, 108] ++ List.replicate 2 0 by rfl, pad]; exact h)
  · have : w = 4 := by omega
    subst this
    exact s_X5_spelled hi h
  · have : w = 5 := by omega
    subst this
    exact s_X5_spelled hi (by rw [show ([115, 111, 114, 116, 0, 0] : List Int) = [115, 111, 114, 116] ++ List.replicate 2 0 by rfl, pad]; exact h)
theorem zch_0 : ∀ (w i : Nat), zlen w ≤ i → zch w i = 0 := by
  intro w i h
  unfold zch zlen at *
  rw [List.getD_eq_getElem?_getD, List.getElem?_eq_none h]
  rfl
/-- letter i of word w is what stands there -/
def zmt (sg : Nat → Int) (p e w j : Nat) : Prop := zch w j = if p + j < e then sg (p + j) else 0
theorem zisW_m {tl : Int} {tx : Nat → Int} {p e w : Nat} (ht : zTx tl tx) (hp : p ≤ e) (he : (e : Int) ≤ tl) (hw : w < 7) : zisW (zsg tl tx) p e w = true ↔ ∀ j : Nat, p + j ≤ e → zmt (zsg tl tx) p e w j := by
  obtain ⟨w1, w2, w3, w4, w5, w6⟩ := zwl_c w hw
  unfold zisW zmt
  rw [Bool.and_eq_true, decide_eq_true_eq, decide_eq_true_eq]
  constructor
  · rintro ⟨h1, h2⟩ j hj
    by_cases c : p + j < e
    · rw [if_pos c]
      exact (h2 j (by omega)).symm
    · rw [if_neg c, zch_0 w j (by omega)]
  · intro h
    have hlen : e = p + zlen w := by
      have a1 := h (e - p) (by omega)
      rw [if_neg (by omega)] at a1
      by_cases c : e - p < zlen w
      · have := w6 _ c
        omega
      · by_cases d : e = p + zlen w
        · exact d
        · have a2 := h (zlen w) (by omega)
          rw [if_pos (by omega), zch_0 w _ (Nat.le_refl _), zsg_in (by omega)] at a2
          have := ht.2 (p + zlen w) (by omega)
          omega
    refine ⟨hlen, fun j hj => ?_⟩
    have := h j (by omega)
    rw [if_pos (by omega)] at this
    exact this.symm
theorem s_X5_isWord {p e w : Nat} {tl : Int} {tx mt : Nat → Int} {Φ : Int → Prop} (ht : zTx tl tx) (hm : zTm tl tx mt) (hp : p ≤ e) (he : (e : Int) ≤ tl) (hw : w < 7) (h : Φ (if zisW (zsg tl tx) p e w = true then 1 else 0)) : wp_X5_isWord (w : Int) tl (p : Int) (e : Int) mt Φ := by
  have ht1 := ht.1
  have hiff := zisW_m ht hp he hw
  unfold wp_X5_isWord
  refine zl2 (fun (a x : Int) => ∃ i : Nat, x = i ∧ p + i ≤ e + 1 ∧ ((a = 1 ∧ ∀ j : Nat, j < i → zmt (zsg tl tx) p e w j) ∨ (a = 0 ∧ ∃ j : Nat, p + j ≤ e ∧ ¬ zmt (zsg tl tx) p e w j))) (fun a x => (e : Int) + 1 - p - x) (fun n a x hi ih => ?_) _ _ ⟨0, rfl, by omega, Or.inl ⟨rfl, fun j hj => absurd hj (by omega)⟩⟩
  obtain ⟨i, rfl, i1, i2⟩ := hi
  have ha : a = 0 ∨ a = 1 := by
    rcases i2 with ⟨q, -⟩ | ⟨q, -⟩ <;> omega
  have no : a = 0 → Φ a := fun z => by
    rcases i2 with ⟨q, -⟩ | ⟨q, j, j1, j2⟩
    · omega
    · rw [if_neg (fun y => j2 (hiff.1 y j j1))] at h
      rw [z]
      exact h
  unfold wp_X5_isWord_4 wp_X5_isWord_68
  refine ⟨⟨(qR_i (by omega) (by omega)), (qR_i (by omega) (by omega))⟩, fun c => ⟨ha, ?_⟩, fun c => ⟨(qR_i (by omega) (by omega)), fun c2 => ⟨ha, no c2⟩, fun c2 => s_X5_letterOf hw (by omega) ?_⟩⟩
  · rcases i2 with ⟨q, q2⟩ | ⟨q, -⟩
    · rw [if_pos (hiff.2 (fun j hj => q2 j (by omega)))] at h
      rw [q]
      exact h
    · exact no q
  · have i3 : ∀ j : Nat, j < i → zmt (zsg tl tx) p e w j := by
      rcases i2 with ⟨-, q⟩ | ⟨q, -⟩
      · exact q
      · omega
    have hch : -1 ≤ zch w i ∧ zch w i ≤ 255 := by
      obtain ⟨w1, w2, w3, w4, w5, w6⟩ := zwl_c w hw
      by_cases c : i < zlen w
      · have := w6 i c
        omega
      · rw [zch_0 w i (by omega)]
        omega
    have step : ∀ v : Int, (v = if p + i < e then zsg tl tx (p + i) else 0) → wp_X5_isWord_53 Φ (wp_X5_isWord_4 Φ (w : Int) tl (p : Int) (e : Int) mt n) (w : Int) (i : Int) (zch w i) v tl (p : Int) (e : Int) mt := by
      intro v ev
      have hv : -1 ≤ v ∧ v ≤ 255 := by
        rw [ev]
        split
        · exact zsg_b ht _
        · omega
      unfold wp_X5_isWord_53 wp_X5_isWord_61
      refine ⟨⟨(qR_i (by omega) (by omega)), (qR_i (by omega) (by omega))⟩, fun c3 v1 e1 => ?_, fun c3 v1 e1 => ?_⟩
      · rw [e1]
        refine ih _ _ ⟨i + 1, by omega, by omega, Or.inr ⟨rfl, i, by omega, ?_⟩⟩ (show ((e : Int) + 1 - p - ((i : Int) + 1)).toNat < ((e : Int) + 1 - p - (i : Int)).toNat by omega)
        unfold zmt
        rw [← ev]
        exact c3
      · rw [e1]
        refine ih _ _ ⟨i + 1, by omega, by omega, Or.inl ⟨rfl, fun j hj => ?_⟩⟩ (show ((e : Int) + 1 - p - ((i : Int) + 1)).toNat < ((e : Int) + 1 - p - (i : Int)).toNat by omega)
        by_cases z : j = i
        · rw [z]
          unfold zmt
          rw [← ev]
          exact Classical.not_not.mp c3
        · exact i3 j (by omega)
    refine ⟨⟨(qR_i (by omega) (by omega)), (qR_i (by omega) (by omega))⟩, fun c3 => step _ (by rw [if_neg (by omega)]), fun c3 => ?_⟩
    have q := s_X5_sign (k := p + i) (Φ := fun r7 => wp_X5_isWord_53 Φ (wp_X5_isWord_4 Φ (w : Int) tl (p : Int) (e : Int) mt n) (w : Int) (i : Int) (zch w i) r7 tl (p : Int) (e : Int) mt) ht hm (by omega) (step _ (by rw [if_pos (by omega)]))
    rw [show ((p + i : Nat) : Int) = (p : Int) + (i : Int) by omega] at q
    exact q
