/-! P26, 6: the least travel, the best start, the longest shutter, the shortest period -/
/-- the stops from i on, as they stand, are no better than the best -/
theorem zT_le {t : Nat} {od : Nat → Int} (ho : zOk (t : Int) od) : ∀ n i : Nat, n + i = t → zT n (zmem od (fun j => decide (i ≤ j)) t) (zprev od i) ≤ zS od t - zS od i
  | 0, i, e => by
    have e1 : i = t := by omega
    subst e1
    show (0 : Int) ≤ _
    omega
  | n + 1, i, e => by
    have hl := zLst_of ho
    have hi : i < t := by omega
    have hv := ho.2.1 i (by omega)
    have ih := zT_le ho n (i + 1) (by omega)
    have hmem : zmem od (fun j => decide (i ≤ j)) t (od i) = true := (zmem_iff t).2 ⟨i, hi, by simp, rfl⟩
    have hdel : zdel (zmem od (fun j => decide (i ≤ j)) t) (od i) = zmem od (fun j => decide (i + 1 ≤ j)) t := by
      rw [zmem_del hl.2.2 hi]
      congr 1
      funext k
      by_cases c : i ≤ k
      · by_cases c2 : k = i
        · subst c2
          simp
        · have c3 : i + 1 ≤ k := by omega
          simp [c, c2, c3]
      · have c3 : ¬ i + 1 ≤ k := by omega
        simp [c, c3]
    have hp : zprev od (i + 1) = od i := by
      unfold zprev
      rw [if_neg (by omega)]
      rfl
    rw [hp] at ih
    show zval (zcost (zT n) (zmem od (fun j => decide (i ≤ j)) t) (zprev od i)) (zbst (zcost (zT n) (zmem od (fun j => decide (i ≤ j)) t) (zprev od i)) (zmem od (fun j => decide (i ≤ j)) t) 64) ≤ _
    have hc : zcost (zT n) (zmem od (fun j => decide (i ≤ j)) t) (zprev od i) (od i) ≤ zS od t - zS od i := by
      unfold zcost
      rw [hdel]
      rw [zS] at ih
      omega
    have hci : ((od i).toNat : Int) = od i := by omega
    rcases zbst_s (zcost (zT n) (zmem od (fun j => decide (i ≤ j)) t) (zprev od i)) (zmem od (fun j => decide (i ≤ j)) t) 64 with ⟨h1, h2⟩ | ⟨b, h1, h2, h3, h4⟩
    · have q := h2 (od i).toNat (by omega)
      rw [hci, hmem] at q
      exact absurd q (by decide)
    · have q := (h4 (od i).toNat (by omega) (by rw [hci]; exact hmem)).1
      rw [hci] at q
      rw [h2]
      unfold zval
      rw [if_neg (by omega)]
      omega
theorem zT_all {t : Nat} {od : Nat → Int} (ho : zOk (t : Int) od) : zT t (zAll od t) 0 ≤ zS od t := by
  have h := zT_le ho t 0 (by omega)
  have e : (fun j : Nat => decide (0 ≤ j)) = fun _ => true := by
    funext j
    simp
  rw [e] at h
  have e2 : zprev od 0 = 0 := rfl
  rw [e2] at h
  have e3 : zS od 0 = 0 := rfl
  rw [e3] at h
  unfold zAll
  omega
theorem zbs_sp (U : Int → Int) : ∀ (n : Nat) (b a : Int), U (zbs U n b a) ≤ U b ∧ (∀ j : Int, a ≤ j → j < a + n → U (zbs U n b a) ≤ U j) ∧ (zbs U n b a = b ∨ (a ≤ zbs U n b a ∧ zbs U n b a < a + n))
  | 0, b, a => ⟨Int.le_refl _, fun j h1 h2 => absurd h1 (by omega), Or.inl rfl⟩
  | n + 1, b, a => by
    obtain ⟨h1, h2, h3⟩ := zbs_sp U n (if U a < U b then a else b) (a + 1)
    rw [zbs]
    by_cases c : U a < U b
    · rw [if_pos c] at h1 h2 h3 ⊢
      refine ⟨by omega, fun j j1 j2 => ?_, ?_⟩
      · by_cases z : j = a
        · rw [z]; exact h1
        · exact h2 j (by omega) (by omega)
      · rcases h3 with h3 | h3
        · right; omega
        · right; omega
    · rw [if_neg c] at h1 h2 h3 ⊢
      refine ⟨h1, fun j j1 j2 => ?_, ?_⟩
      · by_cases z : j = a
        · rw [z]; omega
        · exact h2 j (by omega) (by omega)
      · rcases h3 with h3 | h3
        · left; exact h3
        · right; omega
theorem zlg_ok (U : Int → Int) : ∀ n : Nat, 0 < zlg U n → U (zlg U n) = 0
  | 0, h => absurd (show (0 : Int) < -9 from h) (by decide)
  | n + 1, h => by
    rw [zlg] at h ⊢
    by_cases c : U ((n : Int) + 1) = 0
    · rw [if_pos c]; exact c
    · rw [if_neg c] at h ⊢
      exact zlg_ok U n h
section ZFIN
variable {kp tl : Int} {tk : Nat → Int} {sz : Int} {ph od : Nat → Int} {pi : Nat → Int64} {se : Nat → Int} {Φ : Int → Prop}
theorem zc7 : zcnt (zwr sz ph od pi se 1) 64 = zU sz ph od pi se (se 3) (se 4) := by
  unfold zU
  refine zcnt_c 64 (fun k hk => ?_)
  unfold zwr
  rw [if_neg (by decide)]
theorem zmean_c {se' : Nat → Int} (h0 : se' 0 = se 0) (h1 : se' 1 = se 1) : zmean sz ph od se' = zmean sz ph od se := by
  funext start len spot
  unfold zmean zlit
  rw [h0, h1]
theorem zU_c {se' : Nat → Int} (h0 : se' 0 = se 0) (h1 : se' 1 = se 1) (h5 : se' 5 = se 5) : zU sz ph od pi se' = zU sz ph od pi se := by
  funext start len
  unfold zU
  rw [zmean_c h0 h1, h5]
theorem zU_mod {s len : Int} : zU sz ph od pi se (s % se 0) len = zU sz ph od pi se s len := by
  unfold zU
  rw [zmean_mod]
theorem zlsz_all (ho : zOk sz od) (hs : 1 ≤ se 1 ∧ se 1 ≤ 4) (h : zA od (se 1) sz.toNat < se 0) : zlsz sz od se = sz := by
  have ho1 := ho.1
  have hm := zlsz_s (se := se) ho
  by_cases c : zlsz sz od se < sz
  · have h1 := hm.2.2 c
    have h2 := zA_mono ho hs (n := (zlsz sz od se).toNat + 1) sz.toNat (by omega) (by omega)
    omega
  · omega
theorem zlsz_less (ho : zOk sz od) (hz : 0 < sz) (h : se 0 ≤ zA od (se 1) sz.toNat) : ¬ zlsz sz od se = sz := by
  intro e
  have hm := zlsz_s (se := se) ho
  have h1 := hm.2.1 (sz.toNat - 1) (by omega)
  rw [show sz.toNat - 1 + 1 = sz.toNat by omega] at h1
  omega
/-- the best start, as bestStart tells it -/
def zBS (sz : Int) (ph od : Nat → Int) (pi : Nat → Int64) (se : Nat → Int) : Int := zbs (fun a => zU sz ph od pi se a (se 4)) (se 0 - 1).toNat 0 1
theorem zBS_b (hs : zSe se) : 0 ≤ zBS sz ph od pi se ∧ zBS sz ph od pi se < se 0 := by
  have hs0 := hs.1
  have h := (zbs_sp (fun a => zU sz ph od pi se a (se 4)) (se 0 - 1).toNat 0 1).2.2
  unfold zBS
  rcases h with h | h
  · rw [h]; omega
  · omega
theorem zBS_le (hs : zSe se) : zU sz ph od pi se (zBS sz ph od pi se) (se 4) ≤ zU sz ph od pi se (se 3) (se 4) := by
  have hs0 := hs.1
  have h := zbs_sp (fun a => zU sz ph od pi se a (se 4)) (se 0 - 1).toNat 0 1
  have hb : 0 ≤ se 3 % se 0 ∧ se 3 % se 0 < se 0 := ⟨Int.emod_nonneg _ (by omega), Int.emod_lt_of_pos _ (by omega)⟩
  rw [← zU_mod (s := se 3)]
  unfold zBS
  by_cases c : se 3 % se 0 = 0
  · rw [c]
    exact h.1
  · exact h.2.1 (se 3 % se 0) (by omega) (by omega)
theorem a_b1 {wa : Nat → Int} {Φ : Int → (Nat → Int) → Prop} (hG : zX sz ph od pi se) (h : ∀ g, Φ (zU sz ph od pi se (zBS sz ph od pi se) (se 4)) g) : wp_X4_bestStart 1 wa sz ph od pi se Φ := a_bestStart hG (by decide) (fun g => h g)
theorem a_b0 {wa : Nat → Int} {Φ : Int → (Nat → Int) → Prop} (hG : zX sz ph od pi se) (h : ∀ g, Φ (zBS sz ph od pi se) g) : wp_X4_bestStart 0 wa sz ph od pi se Φ := a_bestStart hG (by decide) (fun g => h g)
theorem a_t0 (h : Φ 5) : wp_X4_ticks 0 1 Φ := a_ticks (by decide) (by decide) (by rw [show (if ((0 : Int) ≤ 0 ∧ (0 : Int) < 4) ∧ (1 : Int) ≤ 1 ∧ (1 : Int) ≤ 100 then zabv 0 1 else -1) = 5 by decide]; exact h)
theorem a_t1 (h : Φ 25) : wp_X4_ticks 1 1 Φ := a_ticks (by decide) (by decide) (by rw [show (if ((0 : Int) ≤ 1 ∧ (1 : Int) < 4) ∧ (1 : Int) ≤ 1 ∧ (1 : Int) ≤ 100 then zabv 1 1 else -1) = 25 by decide +kernel]; exact h)
theorem a_t2 (h : Φ 35) : wp_X4_ticks 2 1 Φ := a_ticks (by decide) (by decide) (by rw [show (if ((0 : Int) ≤ 2 ∧ (2 : Int) < 4) ∧ (1 : Int) ≤ 1 ∧ (1 : Int) ≤ 100 then zabv 2 1 else -1) = 35 by decide +kernel]; exact h)
theorem a_t3 (h : Φ 8) : wp_X4_ticks 3 1 Φ := a_ticks (by decide) (by decide) (by rw [show (if ((0 : Int) ≤ 3 ∧ (3 : Int) < 4) ∧ (1 : Int) ≤ 1 ∧ (1 : Int) ≤ 100 then zabv 3 1 else -1) = 8 by decide +kernel]; exact h)
theorem a_t00 (h : Φ (-1)) : wp_X4_ticks 0 0 Φ := a_ticks (by decide) (by decide) h
theorem a_at_no (ho : zOk sz od) (h : Φ (-1)) : wp_X4_at (-1) sz od Φ := a_at ho (by decide) h
theorem qlcmp_s (a : Int64) : qlcmp a a = 0 := by
  unfold qlcmp
  rw [if_neg (fun z => Int64.lt_irrefl z), if_pos rfl]
end ZFIN
