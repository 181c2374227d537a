/-! PURE 23: the model's commands -/
theorem zcarR_any {w a b b' sz r sz' : Int} {ph od se ph' od' : Nat → Int} {pi pi' : Nat → Int64} (hw : ¬ (w = 2 ∨ w = 6)) (h : zcarR w a b sz ph od pi se r sz' ph' od' pi') : zcarR w a b' sz ph od pi se r sz' ph' od' pi' := by
  unfold zcarR at *
  rcases h with h | h | h | h | h | h | h
  · exact Or.inl h
  · exact Or.inr (Or.inl h)
  · exact absurd (Or.inl h.1) hw
  · exact Or.inr (Or.inr (Or.inr (Or.inl h)))
  · exact Or.inr (Or.inr (Or.inr (Or.inr (Or.inl h))))
  · exact Or.inr (Or.inr (Or.inr (Or.inr (Or.inr (Or.inl h)))))
  · exact absurd (Or.inr h.1) hw
theorem t_X5_drawCode {p x r : Int} {pi pi' : Nat → Int64} {Φ : Int → Prop} (hx : qR x) (hp : 0 ≤ p ∧ p < 2) (hr : zdrawR p x 1 pi r pi') (h1 : r < 0 → Φ (-1)) (h2 : 0 ≤ r → Φ 0) : wp_X5_isSpot x (fun (r6 : Int) => (qR r6 ∧ (r6 = (0 : Int) → wp_X5_codeOf_88 Φ (-1 : Int)) ∧ (¬ (r6 = (0 : Int)) → wp_X5_codeOf_88 Φ (0 : Int)))) := by
  unfold wp_X5_codeOf_88
  refine s_X5_isSpot hx ?_
  rcases hr with ⟨c, e, -⟩ | ⟨-, c, -, -, e⟩
  · rw [if_neg (by omega)]
    exact ⟨by decide, fun _ => h1 (by omega), fun z => absurd rfl z⟩
  · rw [if_pos c]
    have := zcnt_b (f := zb (pi' p.toNat)) 64 (fun k _ => by rcases zb_01 (pi' p.toNat) k with q | q <;> rw [q] <;> decide)
    exact ⟨by decide, fun z => absurd z (by decide), fun _ => h2 (by omega)⟩
theorem t_X5_codeOf {w : Nat} {a b r sz' : Int} {ms : Nat → Int} {sz : Int} {ph od se ph' od' : Nat → Int} {pi pi' : Nat → Int64} {Φ : Int → Prop} (hw : w < 7) (hG : zG ms sz ph od pi se) (ha : qR a) (hb : w = 2 ∨ w = 6 → qR b) (hr : zcarR (w : Int) a b sz ph od pi se r sz' ph' od' pi') (h1 : r < 0 → ∀ c, qR c → c < 0 → Φ c) (h2 : 0 ≤ r → Φ 0) : wp_X5_codeOf (w : Int) a b ms Φ := by
  have hrb := zcarR_b hG.2.1 hG.2.2.2 hr
  have h1' : r < 0 → Φ r := fun z => h1 z r (qR_i (by omega) (by omega)) z
  have h1'' : r < 0 → Φ (-1) := fun z => h1 z (-1) (by decide) (by decide)
  unfold wp_X5_codeOf
  refine ⟨(qR_i (by omega) (by omega)), fun c => absurd c (by omega), fun c => ?_, fun c => ?_, fun c => ?_, fun c => ?_, fun c => ?_, fun c => ?_, fun c => ?_⟩
  · rcases hr with h | h | h | h | h | h | h
    · exact t_X5_lightCode hG.1 hG.2.1 ha h.2.1 h1' h2
    all_goals exact absurd h.1 (by omega)
  · rcases hr with h | h | h | h | h | h | h
    · exact absurd h.1 (by omega)
    · exact t_X5_darkCode hG.1 hG.2.1 ha h.2.1 h1' h2
    all_goals exact absurd h.1 (by omega)
  · rcases hr with h | h | h | h | h | h | h
    · exact absurd h.1 (by omega)
    · exact absurd h.1 (by omega)
    · exact t_X5_kindCode ha (hb (by omega)) hG.2.2.2 h.2.1 h1' h2
    all_goals exact absurd h.1 (by omega)
  · rcases hr with h | h | h | h | h | h | h
    · exact absurd h.1 (by omega)
    · exact absurd h.1 (by omega)
    · exact absurd h.1 (by omega)
    · exact t_X5_drawCode ha (by decide) h.2.1 h1'' h2
    all_goals exact absurd h.1 (by omega)
  · rcases hr with h | h | h | h | h | h | h
    · exact absurd h.1 (by omega)
    · exact absurd h.1 (by omega)
    · exact absurd h.1 (by omega)
    · exact absurd h.1 (by omega)
    · exact t_X5_drawCode ha (by decide) h.2.1 h1'' h2
    all_goals exact absurd h.1 (by omega)
  · rcases hr with h | h | h | h | h | h | h
    · exact absurd h.1 (by omega)
    · exact absurd h.1 (by omega)
    · exact absurd h.1 (by omega)
    · exact absurd h.1 (by omega)
    · exact absurd h.1 (by omega)
    · exact t_X5_sortCode ha h.2.1 h1' h2
    · exact absurd h.1 (by omega)
  · rcases hr with h | h | h | h | h | h | h
    · exact absurd h.1 (by omega)
    · exact absurd h.1 (by omega)
    · exact absurd h.1 (by omega)
    · exact absurd h.1 (by omega)
    · exact absurd h.1 (by omega)
    · exact absurd h.1 (by omega)
    · exact t_X5_swapCode hG.1 hG.2.1 ha (hb (by omega)) h.2.1 h1' h2
theorem t_X5_carry {w : Nat} {a b r sz' : Int} {ms ml : Nat → Int} {sz : Int} {ph od se ph' od' : Nat → Int} {pi pi' : Nat → Int64} {Φ : Int → (Nat → Int) → (Nat → Int) → Prop} (hw : w < 7) (hG : zG ms sz ph od pi se) (ha : qR a) (hr : zcarR (w : Int) a b sz ph od pi se r sz' ph' od' pi') (h0 : 0 ≤ r) (h : ∀ g gl : Nat → Int, zG g sz' ph' od' pi' se → zFr ms g → Φ r g gl) : wp_X5_carry (w : Int) a b ms ml Φ := by
  unfold wp_X5_carry wp_X5_carry_87
  refine ⟨(qR_i (by omega) (by omega)), fun c => absurd c (by omega), fun c => ?_, fun c => ?_, fun c => ?_, fun c => ?_, fun c => ?_, fun c => ?_, fun c => ?_⟩
  · rcases hr with q | q | q | q | q | q | q
    · obtain ⟨-, q, rfl, rfl⟩ := q
      exact t_X5_lightNow hG q h0 (fun g hg hf => h g ml hg hf)
    all_goals exact absurd q.1 (by omega)
  · rcases hr with q | q | q | q | q | q | q
    · exact absurd q.1 (by omega)
    · obtain ⟨-, q, rfl, rfl⟩ := q
      exact t_X5_darkNow hG ha q h0 (fun g hg hf => h g ml hg hf)
    all_goals exact absurd q.1 (by omega)
  · rcases hr with q | q | q | q | q | q | q
    · exact absurd q.1 (by omega)
    · exact absurd q.1 (by omega)
    · obtain ⟨-, q, rfl, rfl, rfl⟩ := q
      exact t_X5_kindNow hG q h0 (fun g hg hf => h g ml hg hf)
    all_goals exact absurd q.1 (by omega)
  · rcases hr with q | q | q | q | q | q | q
    · exact absurd q.1 (by omega)
    · exact absurd q.1 (by omega)
    · exact absurd q.1 (by omega)
    · obtain ⟨-, q, rfl, rfl, rfl⟩ := q
      exact ⟨⟨(qR_i (by omega) (by omega)), (qR_i (by omega) (by omega))⟩, fun z => absurd c z, fun _ => t_X5_drawNow hG q h0 (fun g hg hf => h g ml hg hf)⟩
    all_goals exact absurd q.1 (by omega)
  · rcases hr with q | q | q | q | q | q | q
    · exact absurd q.1 (by omega)
    · exact absurd q.1 (by omega)
    · exact absurd q.1 (by omega)
    · exact absurd q.1 (by omega)
    · obtain ⟨-, q, rfl, rfl, rfl⟩ := q
      exact ⟨⟨(qR_i (by omega) (by omega)), (qR_i (by omega) (by omega))⟩, fun _ => t_X5_drawNow hG q h0 (fun g hg hf => h g ml hg hf), fun z => absurd (by omega) z⟩
    all_goals exact absurd q.1 (by omega)
  · rcases hr with q | q | q | q | q | q | q
    · exact absurd q.1 (by omega)
    · exact absurd q.1 (by omega)
    · exact absurd q.1 (by omega)
    · exact absurd q.1 (by omega)
    · exact absurd q.1 (by omega)
    · obtain ⟨-, q, rfl, rfl, rfl⟩ := q
      exact t_X5_sortNow hG q h0 (fun g gl hg hf => h g gl hg hf)
    · exact absurd q.1 (by omega)
  · rcases hr with q | q | q | q | q | q | q
    · exact absurd q.1 (by omega)
    · exact absurd q.1 (by omega)
    · exact absurd q.1 (by omega)
    · exact absurd q.1 (by omega)
    · exact absurd q.1 (by omega)
    · exact absurd q.1 (by omega)
    · obtain ⟨-, q, rfl, rfl, rfl⟩ := q
      exact t_X5_swapNow hG q h0 (fun g gl hg hf => h g gl hg hf)
section ZCMD
variable {p : Nat} {x1 : Int} {w : Nat} {tl : Int} {tx mt mn ms ml : Nat → Int} {Φ : Int → Int → Int → Int → Int → (Nat → Int) → (Nat → Int) → (Nat → Int) → Prop}
/-- once a fault stands, nothing more is done -/
theorem s_X5_cmdF {x2 tk fr ti fa : Int} (hf : 0 ≤ fa ∧ fa ≤ 1000) (h : Φ 0 tk fr ti fa ms mn ml) : wp_X5_command_75 Φ x1 x2 tl tk fr ti fa ms mt mn ml := by
  unfold wp_X5_command_75 wp_X5_command_111 wp_X5_command_143
  exact ⟨(qR_i (by omega) (by omega)), fun _ => ⟨(qR_i (by omega) (by omega)), fun _ => ⟨(qR_i (by omega) (by omega)), fun z => absurd z (by omega), fun _ => h⟩, fun z => absurd hf.1 z⟩, fun z => absurd hf.1 z⟩
theorem s_X5_cmd1 {x2 : Int} (ht : zTx tl tx) (hm : zTm tl tx mt) (hp : (p : Int) ≤ tl) (h1 : znm (zsg tl tx) p = false → ∀ tk fr ti g, Φ 0 tk fr ti (p : Int) ms g ml) (h2 : znm (zsg tl tx) p = true → ∀ g : Nat → Int, g 0 = zvl (zsg tl tx) p → wp_X5_command_75 Φ x1 x2 tl (ztk (zsg tl tx) tl (zaf (zsg tl tx) p)) (zaf (zsg tl tx) p : Nat) (zti (zsg tl tx) tl (zaf (zsg tl tx) p) : Nat) (-1) ms mt g ml) : wp_X5_command_46 Φ x1 x2 1 tl (ztk (zsg tl tx) tl p) (p : Int) (zti (zsg tl tx) tl p : Nat) (-1) ms mt mn ml := by
  have ht1 := ht.1
  unfold wp_X5_command_46
  refine ⟨2, ?_⟩
  unfold wp_X5_command_50
  refine ⟨by decide, fun z => absurd z (by decide), fun _ => ⟨by decide, fun z => absurd z (by decide), fun _ => s_X5_readNumber ht hm hp (Or.inl rfl) (fun hz v33 e33 => ?_) (fun hz v33 e33 => ?_)⟩⟩
  · unfold wp_X5_command_50
    rw [e33]
    exact ⟨by decide, fun _ => s_X5_cmdF ⟨by omega, by omega⟩ (h1 hz _ _ _ _), fun z => absurd (by decide) z⟩
  · unfold wp_X5_command_50
    rw [e33]
    exact ⟨by decide, fun _ => h2 hz _ rfl, fun z => absurd (by decide) z⟩
theorem s_X5_cmd2 {x2 : Int} (ht : zTx tl tx) (hm : zTm tl tx mt) (hp : (p : Int) ≤ tl) (h1 : znm (zsg tl tx) p = false → ∀ tk fr ti g, Φ 0 tk fr ti (p : Int) ms g ml) (h2 : znm (zsg tl tx) p = true → znm (zsg tl tx) (zaf (zsg tl tx) p) = false → ∀ tk fr ti g, Φ 0 tk fr ti (zaf (zsg tl tx) p : Nat) ms g ml) (h3 : znm (zsg tl tx) p = true → znm (zsg tl tx) (zaf (zsg tl tx) p) = true → ∀ g : Nat → Int, g 0 = zvl (zsg tl tx) p → g 1 = zvl (zsg tl tx) (zaf (zsg tl tx) p) → wp_X5_command_75 Φ x1 x2 tl (ztk (zsg tl tx) tl (zaf (zsg tl tx) (zaf (zsg tl tx) p))) (zaf (zsg tl tx) (zaf (zsg tl tx) p) : Nat) (zti (zsg tl tx) tl (zaf (zsg tl tx) (zaf (zsg tl tx) p)) : Nat) (-1) ms mt g ml) : wp_X5_command_46 Φ x1 x2 2 tl (ztk (zsg tl tx) tl p) (p : Int) (zti (zsg tl tx) tl p : Nat) (-1) ms mt mn ml := by
  have ht1 := ht.1
  have ha := zaf_b ht hp
  unfold wp_X5_command_46
  refine ⟨3, ?_⟩
  unfold wp_X5_command_50
  refine ⟨by decide, fun z => absurd z (by decide), fun _ => ⟨by decide, fun z => absurd z (by decide), fun _ => s_X5_readNumber ht hm hp (Or.inl rfl) (fun hz v33 e33 => ?_) (fun hz v33 e33 => ?_)⟩⟩
  · unfold wp_X5_command_50
    rw [e33]
    exact ⟨by decide, fun z => absurd z (by decide), fun _ => ⟨(qR_i (by omega) (by omega)), fun _ => s_X5_cmdF ⟨by omega, by omega⟩ (h1 hz _ _ _ _), fun z => absurd (Int.ofNat_nonneg p) z⟩⟩
  · unfold wp_X5_command_50
    rw [e33]
    refine ⟨by decide, fun z => absurd z (by decide), fun _ => ⟨by decide, fun z => absurd z (by decide), fun _ => s_X5_readNumber ht hm ha.2 (Or.inr rfl) (fun hz2 v34 e34 => ?_) (fun hz2 v34 e34 => ?_)⟩⟩
    · unfold wp_X5_command_50
      rw [e34]
      exact ⟨by decide, fun _ => s_X5_cmdF ⟨by omega, by omega⟩ (h2 hz hz2 _ _ _ _), fun z => absurd (by decide) z⟩
    · unfold wp_X5_command_50
      rw [e34]
      exact ⟨by decide, fun _ => h3 hz hz2 _ rfl rfl, fun z => absurd (by decide) z⟩
/-- the end of a command -/
theorem s_X5_cmdE {x2 : Int} (ht : zTx tl tx) (hm : zTm tl tx mt) (hp : (p : Int) ≤ tl) (h1 : zsg tl tx p ≠ 59 → ∀ tk fr ti, Φ 0 tk fr ti (p : Int) ms mn ml) (h2 : zsg tl tx p = 59 → wp_X5_command_111 Φ x1 x2 tl (ztk (zsg tl tx) tl p) (p : Int) (zti (zsg tl tx) tl p : Nat) (-1) ms mt mn ml) : wp_X5_command_75 Φ x1 x2 tl (ztk (zsg tl tx) tl p) (p : Int) (zti (zsg tl tx) tl p : Nat) (-1) ms mt mn ml := by
  have ht1 := ht.1
  have hk := ztk_b (zsg tl tx) tl p
  have hb := zsg_b ht p
  have bad : zsg tl tx p ≠ 59 → wp_X5_command_103 Φ x1 x2 tl (ztk (zsg tl tx) tl p) (p : Int) (zti (zsg tl tx) tl p : Nat) (-1) ms mt mn ml := fun c => by
    unfold wp_X5_command_103
    refine s_X5_fail ?_
    unfold wp_X5_command_111 wp_X5_command_143
    exact ⟨(qR_i (by omega) (by omega)), fun _ => ⟨(qR_i (by omega) (by omega)), fun z => absurd z (by omega), fun _ => h1 c _ _ _⟩, fun z => absurd (Int.ofNat_nonneg p) z⟩
  unfold wp_X5_command_75
  refine ⟨by decide, fun z => absurd z (by decide), fun _ => ⟨⟨(qR_i (by omega) (by omega)), (qR_i (by omega) (by omega))⟩, fun c => bad (fun z => c (ztk_3 z).1), fun c => s_X5_sign ht hm (by omega) ⟨⟨(qR_i (by omega) (by omega)), (qR_i (by omega) (by omega))⟩, fun c2 => h2 c2, fun c2 => bad c2⟩⟩⟩
/-- a command is carried out -/
theorem s_X5_cmdC {q : Nat} {r sz' : Int} {sz : Int} {ph od se ph' od' : Nat → Int} {pi pi' : Nat → Int64} (ht : zTx tl tx) (hm : zTm tl tx mt) (hw : w < 7) (hq : zsg tl tx q = 59) (hG : zG ms sz ph od pi se) (ha : qR (mn 0)) (hb : w = 2 ∨ w = 6 → qR (mn 1)) (hx : 0 ≤ x1 ∧ x1 ≤ 1000) (hr : zcarR (w : Int) (mn 0) (mn 1) sz ph od pi se r sz' ph' od' pi') (h1 : r < 0 → ∀ tk fr ti, Φ 0 tk fr ti x1 ms mn ml) (h2 : 0 ≤ r → ∀ g gl : Nat → Int, zG g sz' ph' od' pi' se → zFr ms g → Φ 1 (ztk (zsg tl tx) tl (zend zSp (zsg tl tx) (q + 1))) (zend zSp (zsg tl tx) (q + 1) : Nat) (zti (zsg tl tx) tl (zend zSp (zsg tl tx) (q + 1)) : Nat) (-1) g mn gl) : wp_X5_command_111 Φ x1 (w : Int) tl (ztk (zsg tl tx) tl q) (q : Int) (zti (zsg tl tx) tl q : Nat) (-1) ms mt mn ml := by
  have hrb := zcarR_b hG.2.1 hG.2.2.2 hr
  obtain ⟨e1, e2, e3⟩ := ztk_3 hq
  unfold wp_X5_command_111
  refine ⟨by decide, fun z => absurd z (by decide), fun _ => ⟨by decide, fun v13 e13 => ⟨by decide, fun v14 e14 => ?_⟩⟩⟩
  have e13 : v13 = mn 0 := e13
  have e14 : v14 = mn 1 := e14
  rw [e13, e14]
  refine t_X5_codeOf hw hG ha hb hr (fun c c' hc' c2 => ⟨hc', fun z => absurd z (by omega), fun _ => s_X5_fail ?_⟩) (fun c => ⟨by decide, fun _ => ?_, fun z => absurd (by decide) z⟩)
  · unfold wp_X5_command_143
    exact ⟨(qR_i (by omega) (by omega)), fun z => absurd z (by omega), fun _ => h1 c _ _ _⟩
  · unfold wp_X5_command_143
    refine ⟨by decide, fun _ => ⟨by decide, fun v2 e2' => ⟨by decide, fun v3 e3' => ?_⟩⟩, fun z => absurd (by decide) z⟩
    have e2' : v2 = mn 0 := e2'
    have e3' : v3 = mn 1 := e3'
    rw [e2', e3']
    refine t_X5_carry hw hG ha hr c (fun g gl hg hf => ?_)
    rw [e2]
    refine s_X5_next (t0 := q + 1) ht hm (by omega) ?_
    unfold wp_X5_command_185
    exact ⟨(qR_i (by omega) (by omega)), fun _ => h2 c g gl hg hf, fun z => absurd c z⟩
theorem s_X5_commandBad {q : Nat} (ht : zTx tl tx) (hm : zTm tl tx mt) (hp : (p : Int) ≤ tl) (hbad : zBad (zsg tl tx) p q) (h : ∀ tk fr ti g, Φ 0 tk fr ti (q : Int) ms g ml) : wp_X5_command tl (ztk (zsg tl tx) tl p) (p : Int) (zti (zsg tl tx) tl p : Nat) (-1) ms mt mn ml Φ := by
  have ht1 := ht.1
  have ha := zaw_b ht hp
  have hb := zaf_b ht ha.2
  have hc := zaf_b ht hb.2
  unfold wp_X5_command
  refine s_X5_wordHere ht hm hp ?_
  rcases hbad with ⟨hw, rfl⟩ | ⟨w, hw7, hw, hcase⟩
  · rw [if_pos hw]
    exact ⟨by decide, fun z => absurd rfl z, fun _ => s_X5_fail (h _ _ _ _)⟩
  · have hle : zLe (zsg tl tx p) = true := by
      cases c : zLe (zsg tl tx p) with
      | true => rfl
      | false =>
        have := zwo_no ht hp c
        omega
    rw [if_neg (by omega), hw, (ztk_1 (tl := tl) hle).2]
    refine ⟨⟨(qR_i (by omega) (by omega)), (qR_i (by omega) (by omega))⟩, fun _ => s_X5_next (t0 := zend zLe (zsg tl tx) p) ht hm (zend_b (P := zLe) ht (by decide) _ p hp rfl).2.1 ?_, fun z => absurd (show ¬ (w : Int) = 7 by omega) z⟩
    show (_ ∧ _ ∧ _)
    have one : ¬ (w = 2 ∨ w = 6) → wp_X5_command_46 Φ (p : Int) (w : Int) 1 tl (ztk (zsg tl tx) tl (zaw (zsg tl tx) p)) (zaw (zsg tl tx) p : Nat) (zti (zsg tl tx) tl (zaw (zsg tl tx) p) : Nat) (-1) ms mt mn ml := fun hn => by
      refine s_X5_cmd1 ht hm ha.2 (fun hz tk fr ti g => ?_) (fun hz g hg => s_X5_cmdE ht hm hb.2 (fun hq tk fr ti => ?_) (fun hq => ?_))
      all_goals rcases hcase with ⟨c1, rfl⟩ | ⟨c1, c2, c3, rfl⟩ | ⟨c1, c2, c3, rfl⟩ | ⟨c1, c2, c3, c4, rfl⟩
      · exact h _ _ _ _
      · exact absurd c2 hn
      · rw [hz] at c1; exact absurd c1 (by decide)
      · exact absurd c2 hn
      · rw [hz] at c1; exact absurd c1 (by decide)
      · exact absurd c2 hn
      · exact h _ _ _ _
      · exact absurd c2 hn
      · rw [hz] at c1; exact absurd c1 (by decide)
      · exact absurd c2 hn
      · exact absurd hq c3
      · exact absurd c2 hn
    have two : (w = 2 ∨ w = 6) → wp_X5_command_41 Φ (p : Int) (w : Int) tl (ztk (zsg tl tx) tl (zaw (zsg tl tx) p)) (zaw (zsg tl tx) p : Nat) (zti (zsg tl tx) tl (zaw (zsg tl tx) p) : Nat) (-1) ms mt mn ml := fun hn => by
      unfold wp_X5_command_41
      refine s_X5_cmd2 ht hm ha.2 (fun hz tk fr ti g => ?_) (fun hz hz2 tk fr ti g => ?_) (fun hz hz2 g hg hg1 => s_X5_cmdE ht hm hc.2 (fun hq tk fr ti => ?_) (fun hq => ?_))
      all_goals rcases hcase with ⟨c1, rfl⟩ | ⟨c1, c2, c3, rfl⟩ | ⟨c1, c2, c3, rfl⟩ | ⟨c1, c2, c3, c4, rfl⟩
      · exact h _ _ _ _
      · rw [hz] at c1; exact absurd c1 (by decide)
      · exact absurd hn c2
      · rw [hz] at c1; exact absurd c1 (by decide)
      · rw [hz] at c1; exact absurd c1 (by decide)
      · exact h _ _ _ _
      · exact absurd hn c2
      · rw [hz2] at c3; exact absurd c3 (by decide)
      · rw [hz] at c1; exact absurd c1 (by decide)
      · rw [hz2] at c3; exact absurd c3 (by decide)
      · exact absurd hn c2
      · exact h _ _ _ _
      · rw [hz] at c1; exact absurd c1 (by decide)
      · rw [hz2] at c3; exact absurd c3 (by decide)
      · exact absurd hn c2
      · exact absurd hq c4
    exact ⟨⟨(qR_i (by omega) (by omega)), (qR_i (by omega) (by omega))⟩, fun c => two (by omega), fun c => ⟨⟨(qR_i (by omega) (by omega)), (qR_i (by omega) (by omega))⟩, fun c2 => one (by omega), fun c2 => two (by omega)⟩⟩
theorem s_X5_commandGood {a b : Int} {q : Nat} {r sz' : Int} {sz : Int} {ph od se ph' od' : Nat → Int} {pi pi' : Nat → Int64} (ht : zTx tl tx) (hm : zTm tl tx mt) (hp : (p : Int) ≤ tl) (hgood : zGood (zsg tl tx) p w a b q) (hab : (0 ≤ a ∧ a < 10000) ∧ ((w = 2 ∨ w = 6) → 0 ≤ b ∧ b < 10000)) (hG : zG ms sz ph od pi se) (hr : zcarR (w : Int) a b sz ph od pi se r sz' ph' od' pi') (h1 : r < 0 → ∀ tk fr ti g, Φ 0 tk fr ti (p : Int) ms g ml) (h2 : 0 ≤ r → ∀ g gl gn : Nat → Int, zG g sz' ph' od' pi' se → zFr ms g → Φ 1 (ztk (zsg tl tx) tl (zend zSp (zsg tl tx) (q + 1))) (zend zSp (zsg tl tx) (q + 1) : Nat) (zti (zsg tl tx) tl (zend zSp (zsg tl tx) (q + 1)) : Nat) (-1) g gn gl) : wp_X5_command tl (ztk (zsg tl tx) tl p) (p : Int) (zti (zsg tl tx) tl p : Nat) (-1) ms mt mn ml Φ := by
  have ht1 := ht.1
  have ha := zaw_b ht hp
  have hb := zaf_b ht ha.2
  have hc := zaf_b ht hb.2
  obtain ⟨hw7, hw, hn1, hea, hq, hcase⟩ := hgood
  unfold wp_X5_command
  refine s_X5_wordHere ht hm hp ?_
  have hle : zLe (zsg tl tx p) = true := by
    cases c : zLe (zsg tl tx p) with
    | true => rfl
    | false =>
      have := zwo_no ht hp c
      omega
  rw [if_neg (by omega), hw, (ztk_1 (tl := tl) hle).2]
  refine ⟨⟨(qR_i (by omega) (by omega)), (qR_i (by omega) (by omega))⟩, fun _ => s_X5_next (t0 := zend zLe (zsg tl tx) p) ht hm (zend_b (P := zLe) ht (by decide) _ p hp rfl).2.1 ?_, fun z => absurd (show ¬ (w : Int) = 7 by omega) z⟩
  show (_ ∧ _ ∧ _)
  have one : ¬ (w = 2 ∨ w = 6) → wp_X5_command_46 Φ (p : Int) (w : Int) 1 tl (ztk (zsg tl tx) tl (zaw (zsg tl tx) p)) (zaw (zsg tl tx) p : Nat) (zti (zsg tl tx) tl (zaw (zsg tl tx) p) : Nat) (-1) ms mt mn ml := fun hn => by
    rcases hcase with ⟨-, rfl⟩ | ⟨c, -⟩
    · refine s_X5_cmd1 ht hm ha.2 (fun hz tk fr ti g => absurd (hn1.symm.trans hz) (by decide)) (fun hz g hg => s_X5_cmdE ht hm hb.2 (fun hq2 tk fr ti => absurd hq hq2) (fun hq2 => ?_))
      refine s_X5_cmdC ht hm hw7 hq hG (by rw [hg, ← hea]; exact (qR_i (by omega) (by omega))) (fun z => absurd z hn) ⟨by omega, by omega⟩ (r := r) ?_ (fun c tk fr ti => h1 c tk fr ti g) (fun c g2 gl hg2 hf => h2 c g2 gl g hg2 hf)
      rw [hg, ← hea]
      exact zcarR_any (by omega) hr
    · exact absurd c hn
  have two : (w = 2 ∨ w = 6) → wp_X5_command_41 Φ (p : Int) (w : Int) tl (ztk (zsg tl tx) tl (zaw (zsg tl tx) p)) (zaw (zsg tl tx) p : Nat) (zti (zsg tl tx) tl (zaw (zsg tl tx) p) : Nat) (-1) ms mt mn ml := fun hn => by
    unfold wp_X5_command_41
    have hb2 := hab.2 hn
    rcases hcase with ⟨c, -⟩ | ⟨-, hn2, heb, rfl⟩
    · exact absurd hn c
    · refine s_X5_cmd2 ht hm ha.2 (fun hz tk fr ti g => absurd (hn1.symm.trans hz) (by decide)) (fun hz hz2 tk fr ti g => absurd (hn2.symm.trans hz2) (by decide)) (fun hz hz2 g hg hg1 => s_X5_cmdE ht hm hc.2 (fun hq2 tk fr ti => absurd hq hq2) (fun hq2 => ?_))
      refine s_X5_cmdC ht hm hw7 hq hG (by rw [hg, ← hea]; exact (qR_i (by omega) (by omega))) (fun z => by rw [hg1, ← heb]; exact (qR_i (by omega) (by omega))) ⟨by omega, by omega⟩ (r := r) ?_ (fun c tk fr ti => h1 c tk fr ti g) (fun c g2 gl hg2 hf => h2 c g2 gl g hg2 hf)
      rw [hg, ← hea, hg1, ← heb]
      exact hr
  exact ⟨⟨(qR_i (by omega) (by omega)), (qR_i (by omega) (by omega))⟩, fun c => two (by omega), fun c => ⟨⟨(qR_i (by omega) (by omega)), (qR_i (by omega) (by omega))⟩, fun c2 => one (by omega), fun c2 => two (by omega)⟩⟩
end ZCMD
