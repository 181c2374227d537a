/-! PURE 10: the model's lit spots, and its changes -/
theorem zlszN_s (od se : Nat → Int) : ∀ n i : Nat, ((i : Int) ≤ zlszN od se n i ∧ zlszN od se n i ≤ i + n) ∧ (∀ m : Nat, i ≤ m → (m : Int) < zlszN od se n i → zA od (se 1) (m + 1) < se 0) ∧ (zlszN od se n i < i + n → se 0 ≤ zA od (se 1) ((zlszN od se n i).toNat + 1))
  | 0, i => by
    simp only [zlszN]
    exact ⟨⟨by omega, by omega⟩, fun m h1 h2 => by omega, fun h => by omega⟩
  | n + 1, i => by
    rw [zlszN]
    by_cases c : zA od (se 1) (i + 1) < se 0
    · rw [if_pos c]
      obtain ⟨h1, h2, h3⟩ := zlszN_s od se n (i + 1)
      refine ⟨⟨by omega, by omega⟩, fun m m1 m2 => ?_, fun h => h3 (by omega)⟩
      by_cases e : m = i
      · rw [e]; exact c
      · exact h2 m (by omega) m2
    · rw [if_neg c]
      refine ⟨⟨by omega, by omega⟩, fun m m1 m2 => by omega, fun h => ?_⟩
      rw [show ((i : Int)).toNat = i by omega]
      omega
theorem zlsz_s {sz : Int} {od se : Nat → Int} (ho : zOk sz od) : (0 ≤ zlsz sz od se ∧ zlsz sz od se ≤ sz) ∧ (∀ m : Nat, (m : Int) < zlsz sz od se → zA od (se 1) (m + 1) < se 0) ∧ (zlsz sz od se < sz → se 0 ≤ zA od (se 1) ((zlsz sz od se).toNat + 1)) := by
  have h0 := ho.1
  obtain ⟨h1, h2, h3⟩ := zlszN_s od se sz.toNat 0
  unfold zlsz
  exact ⟨⟨by omega, by omega⟩, fun m hm => h2 m (by omega) hm, fun h => h3 (by omega)⟩
theorem zlit_at {sz : Int} {od se : Nat → Int} (ho : zOk sz od) (hs : zSe se) {k j : Nat} (hj : (j : Int) < sz) (e : od j = (k : Int)) : zlit sz od se k = if (j : Int) < zlsz sz od se then zA od (se 1) (j + 1) else -9 := by
  obtain ⟨s0, s1, -⟩ := hs
  have hp := zpos_some ho hj e
  obtain ⟨h1, h2, h3⟩ := zlsz_s (se := se) ho
  unfold zlit
  rw [hp, if_neg (by omega), show ((j : Int) + 1).toNat = j + 1 by omega]
  by_cases c : (j : Int) < zlsz sz od se
  · rw [if_pos (h2 j c), if_pos c]
  · have h4 := h3 (by omega)
    have h5 := zA_mono ho s1 (n := (zlsz sz od se).toNat + 1) (j + 1) (by omega) (by omega)
    rw [if_neg (by omega), if_neg c]
theorem zlit_none {sz : Int} {od se : Nat → Int} {k : Nat} (h : ∀ j : Nat, (j : Int) < sz → od j ≠ (k : Int)) : zlit sz od se k = -9 := zlit_dark (zpos_none h)
theorem zcnt_ord {sz : Int} {od : Nat → Int} (ho : zOk sz od) : ∀ i : Nat, (i : Int) ≤ sz → zcnt (fun k => if zposN od k i = -9 then 0 else 1) 64 = i
  | 0, _ => by
    simp only [zposN]
    decide
  | i + 1, h => by
    have hv := ho.2.1 i (by omega)
    rw [zcnt_upd1 (f := fun k => if zposN od k i = -9 then 0 else 1) (v := (od i).toNat) (by omega) (fun k hk hkv => by rw [zposN, if_neg (show ¬ od i = (k : Int) by omega)]), zcnt_ord ho i (by omega)]
    have e : (((od i).toNat : Nat) : Int) = od i := by omega
    have hn : zposN od (od i) i = -9 := zposN_none _ (fun k hk e => by
      have := ho.2.2 _ _ (by omega) (by omega) e
      omega)
    rw [e, hn, zposN, if_pos (rfl : od i = od i), if_neg (show ¬ (i : Int) = -9 by omega), if_pos rfl]
    omega
theorem zcnt_lit {sz : Int} {od se : Nat → Int} (ho : zOk sz od) (hs : zSe se) : zcnt (fun k => if zlit sz od se k = -9 then 0 else 1) 64 = zlsz sz od se := by
  obtain ⟨h1, h2, h3⟩ := zlsz_s (se := se) ho
  have hc := zcnt_ord ho (zlsz sz od se).toNat (by omega)
  rw [show (((zlsz sz od se).toNat : Nat) : Int) = zlsz sz od se by omega] at hc
  rw [← hc]
  refine zcnt_c 64 (fun k hk => ?_)
  rcases zpos_cases sz od k with ⟨-, c⟩ | ⟨j, j1, j2, -⟩
  · rw [zlit_none c, if_pos rfl, if_pos (zposN_none _ (fun m hm => c m (by omega)))]
  · rw [zlit_at ho hs j1 j2]
    by_cases c : (j : Int) < zlsz sz od se
    · have hA := zA_b ho hs.2.1 (j + 1) (by omega)
      rw [if_pos c, if_neg (by omega), zposN_some j2 _ (by omega) (fun m hm e => ho.2.2 _ _ (by omega) j1 (e.trans j2.symm)), if_neg (by omega)]
    · rw [if_neg c, if_pos rfl, zposN_none _ (fun m hm e => by
        have := ho.2.2 _ _ (by omega) j1 (e.trans j2.symm)
        omega), if_pos rfl]
theorem qU_a (f : Nat → Int) (j : Nat) (x : Int) (k : Nat) : qU f j x k = if k = j then x else f k := rfl
/-- one spot of one picture becomes b -/
def zPu (pi g : Nat → Int64) (p s b : Int) : Prop := ∀ q k : Nat, k < 64 → zb (g q) k = if q = p.toNat ∧ (k : Int) = s then b else zb (pi q) k
theorem zR_up0 {ms : Nat → Int} {sz : Int} {ph od : Nat → Int} {pi g : Nat → Int64} {se : Nat → Int} (hR : zR ms sz ph od pi se) {s b : Int} (hs : 0 ≤ s ∧ s < 64) (hg : zPu pi g 0 s b) : zR (qU ms ((83 : Int) + s).toNat b) sz ph od g se := by
  obtain ⟨h1, h2, h3, h4, h5, h6⟩ := hR
  refine ⟨fun k hk => ?_, ?_, fun k hk => ?_, fun k hk => ?_, fun k hk => ?_, fun k hk => ?_⟩
  all_goals (repeat rw [qU_a])
  · rw [if_neg (by omega)]; exact h1 k hk
  · rw [if_neg (by omega)]; exact h2
  · rw [if_neg (by omega)]; exact h3 k hk
  · rw [if_neg (by omega)]; exact h4 k hk
  · rw [hg 0 k hk]
    by_cases c : (k : Int) = s
    · rw [if_pos (by omega), if_pos ⟨rfl, c⟩]
    · rw [if_neg (by omega), if_neg (fun z => c z.2)]; exact h5 k hk
  · rw [hg 1 k hk, if_neg (by omega), if_neg (fun z => absurd z.1 (by decide))]; exact h6 k hk
theorem zR_up1 {ms : Nat → Int} {sz : Int} {ph od : Nat → Int} {pi g : Nat → Int64} {se : Nat → Int} (hR : zR ms sz ph od pi se) {s b : Int} (hs : 0 ≤ s ∧ s < 64) (hg : zPu pi g 1 s b) : zR (qU ms ((147 : Int) + s).toNat b) sz ph od g se := by
  obtain ⟨h1, h2, h3, h4, h5, h6⟩ := hR
  refine ⟨fun k hk => ?_, ?_, fun k hk => ?_, fun k hk => ?_, fun k hk => ?_, fun k hk => ?_⟩
  all_goals (repeat rw [qU_a])
  · rw [if_neg (by omega)]; exact h1 k hk
  · rw [if_neg (by omega)]; exact h2
  · rw [if_neg (by omega)]; exact h3 k hk
  · rw [if_neg (by omega)]; exact h4 k hk
  · rw [hg 0 k hk, if_neg (by omega), if_neg (fun z => absurd z.1 (by decide))]; exact h5 k hk
  · rw [hg 1 k hk]
    by_cases c : (k : Int) = s
    · rw [if_pos (by omega), if_pos ⟨rfl, c⟩]
    · rw [if_neg (by omega), if_neg (fun z => c z.2)]; exact h6 k hk
