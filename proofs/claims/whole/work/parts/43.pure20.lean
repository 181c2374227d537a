/-! PURE 20: the class runs a program -/
theorem zaf_b {p : Nat} {tl : Int} {tx : Nat → Int} (ht : zTx tl tx) (hp : (p : Int) ≤ tl) : p ≤ zaf (zsg tl tx) p ∧ (zaf (zsg tl tx) p : Int) ≤ tl := by
  obtain ⟨E1, E2, -, -⟩ := zend_b (P := zDi) ht (by decide) _ p hp rfl
  obtain ⟨F1, F2, -, -⟩ := zend_b (P := zSp) ht (by decide) _ _ E2 rfl
  unfold zaf
  omega
/-- behind a word -/
def zaw (sg : Nat → Int) (p : Nat) : Nat := zend zSp sg (zend zLe sg p)
theorem zaw_b {p : Nat} {tl : Int} {tx : Nat → Int} (ht : zTx tl tx) (hp : (p : Int) ≤ tl) : p ≤ zaw (zsg tl tx) p ∧ (zaw (zsg tl tx) p : Int) ≤ tl := by
  obtain ⟨E1, E2, -, -⟩ := zend_b (P := zLe) ht (by decide) _ p hp rfl
  obtain ⟨F1, F2, -, -⟩ := zend_b (P := zSp) ht (by decide) _ _ E2 rfl
  unfold zaw
  omega
theorem s_X0_readNumbers1 {p : Nat} {tl : Int} {tx nu : Nat → Int} {Φ : Int → Int → (Nat → Int) → Prop} (ht : zTx tl tx) (hp : (p : Int) ≤ tl) (h1 : znm (zsg tl tx) p = false → ∀ g, Φ 0 (p : Int) g) (h2 : znm (zsg tl tx) p = true → (0 ≤ zvl (zsg tl tx) p ∧ zvl (zsg tl tx) p < 10000) → ∀ g : Nat → Int, g 0 = zvl (zsg tl tx) p → Φ 1 (zaf (zsg tl tx) p : Nat) g) : wp_X0_readNumbers 1 tl (p : Int) tx nu Φ := by
  unfold wp_X0_readNumbers
  refine ⟨2, ?_⟩
  unfold wp_X0_readNumbers_2
  refine ⟨by decide, fun c => absurd c (by decide), fun _ => ⟨by decide, fun c => absurd c (by decide), fun _ => s_X0_readNumber ht hp (fun h => ⟨by decide, fun c => absurd c (by decide), fun _ => ⟨Or.inl rfl, h1 h _⟩⟩) (fun h hb => ⟨(qR_i (by omega) (by omega)), fun _ => ⟨by decide, fun g6 e6 v7 e7 => ?_⟩, fun c => absurd hb.1 c⟩)⟩⟩
  unfold wp_X0_readNumbers_2 wp_X0_readNumbers_36
  rw [e7]
  exact ⟨by decide, fun _ => ⟨Or.inr rfl, h2 h hb g6 (by rw [e6]; rfl)⟩, fun c => absurd (by decide) c⟩
theorem s_X0_readNumbers2 {p : Nat} {tl : Int} {tx nu : Nat → Int} {Φ : Int → Int → (Nat → Int) → Prop} (ht : zTx tl tx) (hp : (p : Int) ≤ tl) (h1 : znm (zsg tl tx) p = false → ∀ g, Φ 0 (p : Int) g) (h2 : znm (zsg tl tx) p = true → znm (zsg tl tx) (zaf (zsg tl tx) p) = false → ∀ g, Φ 0 (zaf (zsg tl tx) p : Nat) g) (h3 : znm (zsg tl tx) p = true → znm (zsg tl tx) (zaf (zsg tl tx) p) = true → (0 ≤ zvl (zsg tl tx) p ∧ zvl (zsg tl tx) p < 10000) → (0 ≤ zvl (zsg tl tx) (zaf (zsg tl tx) p) ∧ zvl (zsg tl tx) (zaf (zsg tl tx) p) < 10000) → ∀ g : Nat → Int, g 0 = zvl (zsg tl tx) p → g 1 = zvl (zsg tl tx) (zaf (zsg tl tx) p) → Φ 1 (zaf (zsg tl tx) (zaf (zsg tl tx) p) : Nat) g) : wp_X0_readNumbers 2 tl (p : Int) tx nu Φ := by
  have ha := zaf_b ht hp
  unfold wp_X0_readNumbers
  refine ⟨3, ?_⟩
  unfold wp_X0_readNumbers_2
  refine ⟨by decide, fun c => absurd c (by decide), fun _ => ⟨by decide, fun c => absurd c (by decide), fun _ => s_X0_readNumber ht hp (fun h => ⟨by decide, fun c => absurd c (by decide), fun _ => ⟨Or.inl rfl, h1 h _⟩⟩) (fun h hb => ⟨(qR_i (by omega) (by omega)), fun _ => ⟨by decide, fun g6 e6 v7 e7 => ?_⟩, fun c => absurd hb.1 c⟩)⟩⟩
  unfold wp_X0_readNumbers_2
  rw [e7]
  refine ⟨by decide, fun c => absurd c (by decide), fun _ => ⟨by decide, fun c => absurd c (by decide), fun _ => s_X0_readNumber ht ha.2 (fun hh => ⟨by decide, fun c => absurd c (by decide), fun _ => ⟨Or.inl rfl, h2 h hh _⟩⟩) (fun hh hb2 => ⟨(qR_i (by omega) (by omega)), fun _ => ⟨by decide, fun g8 e8 v9 e9 => ?_⟩, fun c => absurd hb2.1 c⟩)⟩⟩
  unfold wp_X0_readNumbers_2 wp_X0_readNumbers_36
  rw [e9]
  exact ⟨by decide, fun _ => ⟨Or.inr rfl, h3 h hh hb hb2 g8 (by rw [e8, e6]; rfl) (by rw [e8]; rfl)⟩, fun c => absurd (by decide) c⟩
theorem s_X0_readEnd {p : Nat} {tl : Int} {tx : Nat → Int} {Φ : Int → Int → Prop} (ht : zTx tl tx) (hp : (p : Int) ≤ tl) (h1 : zsg tl tx p ≠ 59 → Φ 0 (p : Int)) (h2 : zsg tl tx p = 59 → (p : Int) < tl → Φ 1 (zend zSp (zsg tl tx) (p + 1) : Nat)) : wp_X0_readEnd tl (p : Int) tx Φ := by
  have ht1 := ht.1
  unfold wp_X0_readEnd wp_X0_readEnd_25
  refine ⟨⟨(qR_i (by omega) (by omega)), (qR_i (by omega) (by omega))⟩, fun c => ⟨Or.inl rfl, h1 (by rw [zsg_out (by omega)]; decide)⟩, fun c => ⟨⟨by omega, by omega⟩, fun v2 e2 => ?_⟩⟩
  have e2 : v2 = zsg tl tx p := by
    rw [zsg_in (by omega)]
    exact e2
  have hb := zsg_b ht p
  refine ⟨⟨(qR_i (by omega) (by omega)), (qR_i (by omega) (by omega))⟩, fun c2 => ?_, fun c2 => ⟨Or.inl rfl, h1 (by omega)⟩⟩
  have q := s_X0_moveTo (p := p + 1) (pp := (p : Int)) (Φ := fun g5 => (((1 : Int) = 0 ∨ (1 : Int) = 1) ∧ Φ 1 g5)) ht (by omega) ⟨Or.inr rfl, h2 (by omega) (by omega)⟩
  rw [show ((p + 1 : Nat) : Int) = (p : Int) + 1 by omega] at q
  exact q
/-- a command on the screen -/
def zcarR (w a b sz : Int) (ph od : Nat → Int) (pi : Nat → Int64) (se : Nat → Int) (r sz' : Int) (ph' od' : Nat → Int) (pi' : Nat → Int64) : Prop := (w = 0 ∧ zlightR a sz od r sz' od' ∧ ph' = ph ∧ pi' = pi) ∨ (w = 1 ∧ zdarkR a sz od r sz' od' ∧ ph' = ph ∧ pi' = pi) ∨ (w = 2 ∧ zkindR a b ph r ph' ∧ sz' = sz ∧ od' = od ∧ pi' = pi) ∨ (w = 3 ∧ zdrawR 0 a 1 pi r pi' ∧ sz' = sz ∧ od' = od ∧ ph' = ph) ∨ (w = 4 ∧ zdrawR 1 a 1 pi r pi' ∧ sz' = sz ∧ od' = od ∧ ph' = ph) ∨ (w = 5 ∧ zsortR a sz ph od pi se r od' ∧ sz' = sz ∧ ph' = ph ∧ pi' = pi) ∨ (w = 6 ∧ zswapR a b sz od se r od' ∧ sz' = sz ∧ ph' = ph ∧ pi' = pi)
theorem zcarR_b {w a b sz r sz' : Int} {ph od se ph' od' : Nat → Int} {pi pi' : Nat → Int64} (ho : zOk sz od) (hph : zPh ph) (h : zcarR w a b sz ph od pi se r sz' ph' od' pi') : (zOk sz' od' ∧ zPh ph') ∧ -3 ≤ r ∧ r ≤ 200 := by
  rcases h with ⟨-, h, rfl, rfl⟩ | ⟨-, h, rfl, rfl⟩ | ⟨-, h, rfl, rfl, rfl⟩ | ⟨-, h, rfl, rfl, rfl⟩ | ⟨-, h, rfl, rfl, rfl⟩ | ⟨-, h, rfl, rfl, rfl⟩ | ⟨-, h, rfl, rfl, rfl⟩
  · have := zlightR_b ho h
    exact ⟨⟨this.1, hph⟩, this.2⟩
  · have := zdarkR_b ho h
    exact ⟨⟨this.1, hph⟩, this.2⟩
  · have := zkindR_b hph h
    exact ⟨⟨ho, this.1⟩, this.2⟩
  · exact ⟨⟨ho, hph⟩, zdrawR_b h⟩
  · exact ⟨⟨ho, hph⟩, zdrawR_b h⟩
  · have := zsortR_b ho h
    exact ⟨⟨this.1, hph⟩, this.2⟩
  · have := zswapR_b ho h
    exact ⟨⟨this.1, hph⟩, this.2⟩
theorem s_X0_carryOut {w : Nat} {sz : Int} {ph od se nu : Nat → Int} {pi : Nat → Int64} {Φ : Int → Int → (Nat → Int) → (Nat → Int) → (Nat → Int64) → Prop} (hw : w < 7) (ha : qR (nu 0)) (hb : w = 2 ∨ w = 6 → qR (nu 1)) (ho : zOk sz od) (hph : zPh ph) (hs : zSe se) (h : ∀ r sz' ph' od' pi', zcarR (w : Int) (nu 0) (nu 1) sz ph od pi se r sz' ph' od' pi' → Φ r sz' ph' od' pi') : wp_X0_carryOut (w : Int) nu sz ph od pi se Φ := by
  unfold wp_X0_carryOut
  refine ⟨(qR_i (by omega) (by omega)), fun c => ⟨by decide, fun v1 e1 => ⟨by decide, fun v2 e2 => ?_⟩⟩, fun c => ⟨by decide, fun v5 e5 => ?_⟩, fun c => ⟨by decide, fun v9 e9 => ?_⟩, fun c => ⟨by decide, fun v13 e13 => ⟨by decide, fun v14 e14 => ?_⟩⟩, fun c => ⟨by decide, fun v17 e17 => ?_⟩, fun c => ⟨by decide, fun v20 e20 => ?_⟩, fun c => ⟨by decide, fun v23 e23 => ?_⟩⟩
  · have e1 : v1 = nu 0 := e1
    have e2 : v2 = nu 1 := e2
    rw [e1, e2]
    exact t_X1_swapPositions ha (hb (by omega)) ho hs (fun r od' hr => h _ _ _ _ _ (Or.inr (Or.inr (Or.inr (Or.inr (Or.inr (Or.inr ⟨by omega, hr, rfl, rfl, rfl⟩)))))))
  · have e5 : v5 = nu 0 := e5
    rw [e5]
    exact t_X1_addSpot ha ho (fun r sz' od' hr => h _ _ _ _ _ (Or.inl ⟨c, hr, rfl, rfl⟩))
  · have e9 : v9 = nu 0 := e9
    rw [e9]
    exact t_X1_removeSpot ha ho (fun r sz' od' hr => h _ _ _ _ _ (Or.inr (Or.inl ⟨c, hr, rfl, rfl⟩)))
  · have e13 : v13 = nu 0 := e13
    have e14 : v14 = nu 1 := e14
    rw [e13, e14]
    exact t_X1_putPhosphor ha (hb (by omega)) (fun r ph' hr => h _ _ _ _ _ (Or.inr (Or.inr (Or.inl ⟨c, hr, rfl, rfl, rfl⟩))))
  · have e17 : v17 = nu 0 := e17
    rw [e17]
    exact t_X1_paint (by decide) ha (by decide) (fun r pi' hr => h _ _ _ _ _ (Or.inr (Or.inr (Or.inr (Or.inl ⟨c, hr, rfl, rfl, rfl⟩)))))
  · have e20 : v20 = nu 0 := e20
    rw [e20]
    exact t_X1_paint (by decide) ha (by decide) (fun r pi' hr => h _ _ _ _ _ (Or.inr (Or.inr (Or.inr (Or.inr (Or.inl ⟨c, hr, rfl, rfl, rfl⟩))))))
  · have e23 : v23 = nu 0 := e23
    rw [e23]
    exact t_X1_arrange ha hph ho hs (fun r od' hr => h _ _ _ _ _ (Or.inr (Or.inr (Or.inr (Or.inr (Or.inr (Or.inl ⟨c, hr, rfl, rfl, rfl⟩)))))))
/-- the place where a command stops to be one -/
def zBad (sg : Nat → Int) (p q : Nat) : Prop := (zwo sg p = -1 ∧ q = p) ∨ ∃ w : Nat, w < 7 ∧ zwo sg p = w ∧ ((znm sg (zaw sg p) = false ∧ q = zaw sg p) ∨ (znm sg (zaw sg p) = true ∧ (w = 2 ∨ w = 6) ∧ znm sg (zaf sg (zaw sg p)) = false ∧ q = zaf sg (zaw sg p)) ∨ (znm sg (zaw sg p) = true ∧ ¬ (w = 2 ∨ w = 6) ∧ sg (zaf sg (zaw sg p)) ≠ 59 ∧ q = zaf sg (zaw sg p)) ∨ (znm sg (zaw sg p) = true ∧ (w = 2 ∨ w = 6) ∧ znm sg (zaf sg (zaw sg p)) = true ∧ sg (zaf sg (zaf sg (zaw sg p))) ≠ 59 ∧ q = zaf sg (zaf sg (zaw sg p))))
/-- a command stands there: its word, its numbers, and where its end stands -/
def zGood (sg : Nat → Int) (p : Nat) (w : Nat) (a b : Int) (q : Nat) : Prop := w < 7 ∧ zwo sg p = w ∧ znm sg (zaw sg p) = true ∧ a = zvl sg (zaw sg p) ∧ sg q = 59 ∧ ((¬ (w = 2 ∨ w = 6) ∧ q = zaf sg (zaw sg p)) ∨ ((w = 2 ∨ w = 6) ∧ znm sg (zaf sg (zaw sg p)) = true ∧ b = zvl sg (zaf sg (zaw sg p)) ∧ q = zaf sg (zaf sg (zaw sg p))))
/-- a program runs from a place on -/
def zRun (sg : Nat → Int) (tl : Int) (se : Nat → Int) : Nat → Nat → Int → Int → (Nat → Int) → (Nat → Int) → (Nat → Int64) → Int → Int → (Nat → Int) → (Nat → Int) → (Nat → Int64) → Prop
  | 0 => fun _ _ _ _ _ _ _ _ _ _ _ => False
  | n + 1 => fun p cnt sz ph od pi res sz' ph' od' pi' => (tl ≤ p ∧ res = cnt ∧ sz' = sz ∧ ph' = ph ∧ od' = od ∧ pi' = pi) ∨ ((p : Int) < tl ∧ ∃ q : Nat, (q : Int) ≤ tl ∧ zBad sg p q ∧ res = -1000 - (q : Int)) ∨ ((p : Int) < tl ∧ ∃ (w : Nat) (a b : Int) (q : Nat) (r sz1 : Int) (ph1 od1 : Nat → Int) (pi1 : Nat → Int64), zGood sg p w a b q ∧ (p < q + 1 ∧ (q : Int) < tl) ∧ ((0 ≤ a ∧ a < 10000) ∧ ((w = 2 ∨ w = 6) → 0 ≤ b ∧ b < 10000)) ∧ zcarR (w : Int) a b sz ph od pi se r sz1 ph1 od1 pi1 ∧ ((r < 0 ∧ res = -1000 - (p : Int)) ∨ (0 ≤ r ∧ zRun sg tl se n (zend zSp sg (q + 1)) (cnt + 1) sz1 ph1 od1 pi1 res sz' ph' od' pi')))
theorem s_X0_runOn {tl pp : Int} {tx nu : Nat → Int} {sz : Int} {ph od se : Nat → Int} {pi : Nat → Int64} {Φ : Int → Int → (Nat → Int) → Int → (Nat → Int) → (Nat → Int) → (Nat → Int64) → Prop} (ht : zTx tl tx) (ho : zOk sz od) (hph : zPh ph) (hs : zSe se) (h : ∀ (n : Nat) (res sz' : Int) (ph' od' : Nat → Int) (pi' : Nat → Int64) (pp' : Int) (nu' : Nat → Int), zRun (zsg tl tx) tl se n (zend zSp (zsg tl tx) 0) 0 sz ph od pi res sz' ph' od' pi' → -2000 ≤ res ∧ res ≤ 200 → (0 ≤ res → zOk sz' od' ∧ zPh ph') → Φ res pp' nu' sz' ph' od' pi') : wp_X0_runOn tl pp tx nu sz ph od pi se Φ := by
  have ht1 := ht.1
  unfold wp_X0_runOn
  refine s_X0_moveTo (p := 0) ht (by omega) ?_
  have hE := zend_b (P := zSp) ht (by decide) _ 0 (by omega) rfl
  refine zl1 (A := Int × Int × (Nat → Int) × Int × (Nat → Int) × (Nat → Int) × (Nat → Int64)) (W := fun n s => wp_X0_runOn_7 Φ tl tx se n s.1 s.2.1 s.2.2.1 s.2.2.2.1 s.2.2.2.2.1 s.2.2.2.2.2.1 s.2.2.2.2.2.2) (fun s => ∃ p : Nat, s.2.1 = p ∧ (p : Int) ≤ tl ∧ (0 ≤ s.1 ∧ s.1 ≤ p) ∧ (zOk s.2.2.2.1 s.2.2.2.2.2.1 ∧ zPh s.2.2.2.2.1) ∧ ∀ (n : Nat) (res sz' : Int) (ph' od' : Nat → Int) (pi' : Nat → Int64) (pp' : Int) (nu' : Nat → Int), zRun (zsg tl tx) tl se n p s.1 s.2.2.2.1 s.2.2.2.2.1 s.2.2.2.2.2.1 s.2.2.2.2.2.2 res sz' ph' od' pi' → -2000 ≤ res ∧ res ≤ 200 → (0 ≤ res → zOk sz' od' ∧ zPh ph') → Φ res pp' nu' sz' ph' od' pi') (fun s => tl - s.2.1) (fun n s hi ih => ?_) (0, ((zend zSp (zsg tl tx) 0 : Nat) : Int), nu, sz, ph, od, pi) ⟨_, rfl, hE.2.1, ⟨Int.le_refl _, by omega⟩, ⟨ho, hph⟩, h⟩
  obtain ⟨cnt, pos, nu1, sz1, ph1, od1, pi1⟩ := s
  obtain ⟨p, rfl, i1, i2, i3, i4⟩ := hi
  simp only [] at i1 i2 i3 i4 ih ⊢
  unfold wp_X0_runOn_7 wp_X0_runOn_91
  refine ⟨⟨(qR_i (by omega) (by omega)), (qR_i (by omega) (by omega))⟩, fun c => ?_, fun c => ⟨⟨(qR_i (by omega) (by omega)), (qR_i (by omega) (by omega))⟩, fun c2 => absurd c2 (by omega), fun c2 => ?_⟩⟩
  · exact i4 1 cnt _ _ _ _ _ _ (Or.inl ⟨c, rfl, rfl, rfl, rfl, rfl⟩) ⟨by omega, by omega⟩ (fun _ => i3)
  · have bad : ∀ (q : Nat) (g : Nat → Int), (q : Int) ≤ tl → zBad (zsg tl tx) p q → wp_X0_runOn_60 Φ (q : Int) g sz1 ph1 od1 pi1 := fun q g hq hb => by
      unfold wp_X0_runOn_60
      exact i4 1 _ _ _ _ _ _ _ (Or.inr (Or.inl ⟨by omega, q, hq, hb, rfl⟩)) ⟨by omega, by omega⟩ (fun z => absurd z (by omega))
    have ha := zaw_b ht i1
    have hb := zaf_b ht ha.2
    have hc := zaf_b ht hb.2
    -- the command is read
    have good : ∀ (w : Nat) (g : Nat → Int) (q : Nat), zGood (zsg tl tx) p w (g 0) (g 1) q → ((p < q + 1 ∧ (q : Int) < tl)) → ((0 ≤ g 0 ∧ g 0 < 10000) ∧ ((w = 2 ∨ w = 6) → 0 ≤ g 1 ∧ g 1 < 10000)) → wp_X0_carryOut (w : Int) g sz1 ph1 od1 pi1 se (fun (r14 : Int) (g15 : Int) (g16 : Nat → Int) (g17 : Nat → Int) (g18 : Nat → Int64) => (qR r14 ∧ ((0 : Int) ≤ r14 → (∀ v20 : Int, v20 = cnt + (1 : Int) → wp_X0_runOn_7 Φ tl tx se n v20 ((zend zSp (zsg tl tx) (q + 1) : Nat) : Int) g g15 g16 g17 g18)) ∧ (¬ ((0 : Int) ≤ r14) → Φ ((-1000 : Int) - (p : Int)) ((zend zSp (zsg tl tx) (q + 1) : Nat) : Int) g g15 g16 g17 g18))) := by
      intro w g q hg hq hab
      have hE2 := zend_b (P := zSp) ht (by decide) _ (q + 1) (by omega) rfl
      refine s_X0_carryOut hg.1 (qR_i (by omega) (by omega)) (fun hw => by have := hab.2 hw; exact (qR_i (by omega) (by omega))) i3.1 i3.2 hs (fun r sz2 ph2 od2 pi2 hr => ?_)
      have hrb := zcarR_b i3.1 i3.2 hr
      refine ⟨(qR_i (by omega) (by omega)), fun c5 v20 e20 => ?_, fun c5 => ?_⟩
      · rw [e20]
        refine ih (cnt + 1, ((zend zSp (zsg tl tx) (q + 1) : Nat) : Int), g, sz2, ph2, od2, pi2) ⟨_, rfl, hE2.2.1, ⟨by show 0 ≤ cnt + 1; omega, by show cnt + 1 ≤ _; omega⟩, hrb.1, fun m res sz' ph' od' pi' pp' nu' hrun => ?_⟩ (show (tl - ((zend zSp (zsg tl tx) (q + 1) : Nat) : Int)).toNat < (tl - (p : Int)).toNat by omega)
        exact i4 (m + 1) res sz' ph' od' pi' pp' nu' (Or.inr (Or.inr ⟨by omega, w, g 0, g 1, q, r, sz2, ph2, od2, pi2, hg, hq, hab, hr, Or.inr ⟨c5, hrun⟩⟩))
      · exact i4 1 _ _ _ _ _ _ _ (Or.inr (Or.inr ⟨by omega, w, g 0, g 1, q, r, sz2, ph2, od2, pi2, hg, hq, hab, hr, Or.inl ⟨by omega, rfl⟩⟩)) ⟨by omega, by omega⟩ (fun z => absurd z (by omega))
    refine s_X0_readWord ht i1 (fun hw => ⟨by decide, fun _ => bad p _ i1 (Or.inl ⟨hw, rfl⟩), fun z => absurd (by decide) z⟩) (fun w hw7 hw => ⟨(qR_i (by omega) (by omega)), fun z => absurd z (by omega), fun _ => ?_⟩)
    have ew : ((zend zSp (zsg tl tx) (zend zLe (zsg tl tx) p) : Nat) : Int) = ((zaw (zsg tl tx) p : Nat) : Int) := rfl
    rw [ew]
    unfold wp_X0_numbersOf wp_X0_numbersOf_11 wp_X0_numbersOf_16
    have one : ¬ (w = 2 ∨ w = 6) → wp_X0_readNumbers 1 tl ((zaw (zsg tl tx) p : Nat) : Int) tx nu1 (fun (r7 : Int) (g8 : Int) (g9 : Nat → Int) => (qR r7 ∧ (r7 = (0 : Int) → wp_X0_runOn_60 Φ g8 g9 sz1 ph1 od1 pi1) ∧ (¬ (r7 = (0 : Int)) → wp_X0_readEnd tl g8 tx (fun (r11 : Int) (g12 : Int) => (qR r11 ∧ (¬ r11 = (0 : Int) → wp_X0_carryOut (w : Int) g9 sz1 ph1 od1 pi1 se (fun (r14 : Int) (g15 : Int) (g16 : Nat → Int) (g17 : Nat → Int) (g18 : Nat → Int64) => (qR r14 ∧ ((0 : Int) ≤ r14 → (∀ v20 : Int, v20 = cnt + (1 : Int) → wp_X0_runOn_7 Φ tl tx se n v20 g12 g9 g15 g16 g17 g18)) ∧ (¬ ((0 : Int) ≤ r14) → Φ ((-1000 : Int) - (p : Int)) g12 g9 g15 g16 g17 g18)))) ∧ (¬ (¬ r11 = (0 : Int)) → wp_X0_runOn_60 Φ g12 g9 sz1 ph1 od1 pi1)))))) := by
      intro h1w
      refine s_X0_readNumbers1 ht ha.2 (fun hn g => ⟨by decide, fun _ => bad _ _ ha.2 (Or.inr ⟨w, hw7, hw, Or.inl ⟨hn, rfl⟩⟩), fun z => absurd rfl z⟩) (fun hn hv g hg0 => ⟨by decide, fun z => absurd z (by decide), fun _ => ?_⟩)
      refine s_X0_readEnd ht hb.2 (fun he => ⟨by decide, fun z => absurd rfl z, fun _ => bad _ _ hb.2 (Or.inr ⟨w, hw7, hw, Or.inr (Or.inr (Or.inl ⟨hn, h1w, he, rfl⟩))⟩)⟩) (fun he hlt => ⟨by decide, fun _ => ?_, fun z => absurd (by decide) z⟩)
      exact good w g _ ⟨hw7, hw, hn, hg0, he, Or.inl ⟨h1w, rfl⟩⟩ ⟨by omega, by omega⟩ ⟨by rw [hg0]; exact hv, fun z => absurd z h1w⟩
    have two : (w = 2 ∨ w = 6) → wp_X0_readNumbers 2 tl ((zaw (zsg tl tx) p : Nat) : Int) tx nu1 (fun (r7 : Int) (g8 : Int) (g9 : Nat → Int) => (qR r7 ∧ (r7 = (0 : Int) → wp_X0_runOn_60 Φ g8 g9 sz1 ph1 od1 pi1) ∧ (¬ (r7 = (0 : Int)) → wp_X0_readEnd tl g8 tx (fun (r11 : Int) (g12 : Int) => (qR r11 ∧ (¬ r11 = (0 : Int) → wp_X0_carryOut (w : Int) g9 sz1 ph1 od1 pi1 se (fun (r14 : Int) (g15 : Int) (g16 : Nat → Int) (g17 : Nat → Int) (g18 : Nat → Int64) => (qR r14 ∧ ((0 : Int) ≤ r14 → (∀ v20 : Int, v20 = cnt + (1 : Int) → wp_X0_runOn_7 Φ tl tx se n v20 g12 g9 g15 g16 g17 g18)) ∧ (¬ ((0 : Int) ≤ r14) → Φ ((-1000 : Int) - (p : Int)) g12 g9 g15 g16 g17 g18)))) ∧ (¬ (¬ r11 = (0 : Int)) → wp_X0_runOn_60 Φ g12 g9 sz1 ph1 od1 pi1)))))) := by
      intro h2w
      refine s_X0_readNumbers2 ht ha.2 (fun hn g => ⟨by decide, fun _ => bad _ _ ha.2 (Or.inr ⟨w, hw7, hw, Or.inl ⟨hn, rfl⟩⟩), fun z => absurd rfl z⟩) (fun hn hn2 g => ⟨by decide, fun _ => bad _ _ hb.2 (Or.inr ⟨w, hw7, hw, Or.inr (Or.inl ⟨hn, h2w, hn2, rfl⟩)⟩), fun z => absurd rfl z⟩) (fun hn hn2 hv hv2 g hg0 hg1 => ⟨by decide, fun z => absurd z (by decide), fun _ => ?_⟩)
      refine s_X0_readEnd ht hc.2 (fun he => ⟨by decide, fun z => absurd rfl z, fun _ => bad _ _ hc.2 (Or.inr ⟨w, hw7, hw, Or.inr (Or.inr (Or.inr ⟨hn, h2w, hn2, he, rfl⟩))⟩)⟩) (fun he hlt => ⟨by decide, fun _ => ?_, fun z => absurd (by decide) z⟩)
      exact good w g _ ⟨hw7, hw, hn, hg0, he, Or.inr ⟨h2w, hn2, hg1, rfl⟩⟩ ⟨by omega, by omega⟩ ⟨by rw [hg0]; exact hv, fun _ => by rw [hg1]; exact hv2⟩
    refine ⟨⟨(qR_i (by omega) (by omega)), (qR_i (by omega) (by omega))⟩, fun c3 => two (by omega), fun c3 => ⟨⟨(qR_i (by omega) (by omega)), (qR_i (by omega) (by omega))⟩, fun c4 => one (by omega), fun c4 => two (by omega)⟩⟩
