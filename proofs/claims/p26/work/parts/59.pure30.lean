/-! PURE 30: what an error leaves; how large answers are -/
theorem zsetR_n {x y r : Int} {se se' : Nat → Int} (hs : zSe se) (h : zsetR x y se r se') (h0 : r < 0) : se' = se := by
  rcases h with ⟨-, -, e⟩ | ⟨c, -, e, -⟩
  · exact e
  · have := zSe_b hs (k := x.toNat) (by omega)
    omega
theorem zkindR_n {x y r : Int} {ph ph' : Nat → Int} (hph : zPh ph) (h : zkindR x y ph r ph') (h0 : r < 0) : ph' = ph := by
  rcases h with ⟨-, -, e⟩ | ⟨c, -, e, -⟩
  · exact e
  · have := hph x.toNat (by omega)
    omega
theorem zlightR_n {x sz r sz' : Int} {od od' : Nat → Int} (ho : zOk sz od) (h : zlightR x sz od r sz' od') (h0 : r < 0) : sz' = sz ∧ od' = od := by
  have ho1 := ho.1
  rcases h with ⟨-, -, e⟩ | ⟨-, -, -, e⟩ | ⟨-, -, -, -, e⟩ | ⟨-, -, -, e, -⟩
  · exact e
  · exact e
  · exact e
  · omega
theorem zdarkR_n {x sz r sz' : Int} {od od' : Nat → Int} (h : zdarkR x sz od r sz' od') (h0 : r < 0) : sz' = sz ∧ od' = od := by
  rcases h with ⟨-, -, e⟩ | ⟨-, -, -, e⟩ | ⟨-, q, e, -⟩
  · exact e
  · exact e
  · have := zpos_b sz od x
    omega
theorem zswapR_n {i j sz r : Int} {od se od' : Nat → Int} (ho : zOk sz od) (h : zswapR i j sz od se r od') (h0 : r < 0) : od' = od := by
  rcases h with ⟨-, -, e⟩ | ⟨c, d, e, -⟩
  · exact e
  · have := zlsz_b (se := se) (zsw_ok ho c d)
    omega
theorem zsortR_n {rule sz r : Int} {ph od se od' : Nat → Int} {pi : Nat → Int64} (h : zsortR rule sz ph od pi se r od') (h0 : r < 0) : od' = od := by
  rcases h with ⟨-, -, e⟩ | ⟨-, c, e, -⟩
  · exact e
  · have := zlsz_b (se := se) c
    omega
theorem zcnt64 (x : Int64) : 0 ≤ zcnt (zb x) 64 ∧ zcnt (zb x) 64 ≤ 64 := zcnt_b 64 (fun k _ => by rcases zb_01 x k with q | q <;> rw [q] <;> decide)
theorem zdrawR_n {p s b r : Int} {pi pi' : Nat → Int64} (h : zdrawR p s b pi r pi') (h0 : r < 0) : pi' = pi := by
  rcases h with ⟨-, -, e⟩ | ⟨-, -, -, -, e⟩
  · exact e
  · have := zcnt64 (pi' p.toNat)
    omega
theorem zcount_q {x kp tl : Int} {tk : Nat → Int} {sz : Int} {ms ph od : Nat → Int} {pi : Nat → Int64} {se : Nat → Int} (hG : zG ms sz ph od pi se) (f0 : tk 0 = 0 ∨ tk 0 = 1) (f1 : tk 1 = 0 ∨ tk 1 = 1) (hk : 0 ≤ kp ∧ kp ≤ 5) (ht : 0 ≤ tl ∧ tl ≤ 140) : qR (zcount x kp tl tk sz ph od pi se) := by
  obtain ⟨hR, ho, hs, hph⟩ := hG
  have ho1 := ho.1
  have h1 := zlsz_b (se := se) ho
  have h2 := zcnt64 (pi 0)
  have h3 := zcnt64 (pi 1)
  have h4 := zcnt_b (f := zsee (zmean sz ph od se 0 (se 0)) (se 2)) 64 (fun k _ => by rcases zsee_b (zmean sz ph od se 0 (se 0)) (se 2) k with q | q <;> rw [q] <;> decide)
  have h5 := zcnt_b (f := zsee (zmean sz ph od se (se 3) (se 4)) (se 5)) 64 (fun k _ => by rcases zsee_b (zmean sz ph od se (se 3) (se 4)) (se 5) k with q | q <;> rw [q] <;> decide)
  have h6 := zcnt_b (f := zwr sz ph od pi se 0) 64 (fun k _ => by rcases zwr_b sz ph od pi se 0 k with q | q <;> rw [q] <;> decide)
  have h7 := zcnt_b (f := zwr sz ph od pi se 1) 64 (fun k _ => by rcases zwr_b sz ph od pi se 1 k with q | q <;> rw [q] <;> decide)
  have h8 := zS_b ho sz.toNat (by omega)
  have h1b := (zlsz_s (se := se) ho).1
  have h9 := zA_b ho hs.2.1 (zlsz sz od se).toNat (by omega)
  have h10 : (13 ≤ x ∧ x ≤ 18) → 0 ≤ se (x - 13).toNat ∧ se (x - 13).toNat ≤ 200 := fun c => zSe_b hs (by omega)
  unfold zcount
  refine qR_i ?_ ?_
  all_goals repeat' split
  all_goals omega
theorem zmx_q {ph od se : Nat → Int} {sz x : Int} (ho : zOk sz od) (hs : zSe se) : 0 ≤ zmx (zshine ph (se 0) (zlit sz od se x) x) (se 0).toNat ∧ zmx (zshine ph (se 0) (zlit sz od se x) x) (se 0).toNat ≤ 100 ∧ 0 ≤ zmn (zshine ph (se 0) (zlit sz od se x) x) (se 0).toNat ∧ zmn (zshine ph (se 0) (zlit sz od se x) x) (se 0).toNat ≤ 100 := by
  have hs0 := hs.1
  have hl := zlit_b ho hs.2.1 x
  have := zmx_b (f := zshine ph (se 0) (zlit sz od se x) x) (m := se 0) (fun t t1 t2 => zshine_b (by omega) hl ⟨t1, t2⟩) (se 0).toNat (by omega)
  omega
theorem zspot_q {x y sz : Int} {ms ph od : Nat → Int} {pi : Nat → Int64} {se : Nat → Int} (hG : zG ms sz ph od pi se) : qR (zspot x y sz ph od pi se) := by
  obtain ⟨hR, ho, hs, hph⟩ := hG
  have ho1 := ho.1
  have hs0 := hs.1
  have hs4 := hs.2.2.2.2.1
  have h1 : (0 ≤ x ∧ x < 64) → 0 ≤ ph x.toNat ∧ ph x.toNat ≤ 3 := fun c => hph _ (by omega)
  have h2 := zb_01 (pi 0) x.toNat
  have h3 := zb_01 (pi 1) x.toNat
  have h4 := zpos_b sz od x
  have h5 := zlit_b ho hs.2.1 x
  have h6 := zsee_b (zmean sz ph od se 0 (se 0)) (se 2) x.toNat
  have h7 := zsee_b (zmean sz ph od se (se 3) (se 4)) (se 5) x.toNat
  have h8 := (zmean_b (ph := ph) (start := 0) (len := se 0) (spot := x) ho hs ⟨by omega, by omega⟩).2
  have h9 := (zmean_b (ph := ph) (start := se 3) (len := se 4) (spot := x) ho hs ⟨by omega, by omega⟩).2
  have h10 := zmx_q (ph := ph) (x := x) ho hs
  unfold zspot
  refine qR_i ?_ ?_
  all_goals repeat' split
  all_goals omega
theorem zat_q {x sz : Int} {od : Nat → Int} (ho : zOk sz od) : qR (if x < 0 then -1 else if x < sz then od x.toNat else -9) := by
  have h : 0 ≤ x → x < sz → 0 ≤ od x.toNat ∧ od x.toNat < 64 := fun c d => ho.2.1 _ (by omega)
  refine qR_i ?_ ?_
  all_goals repeat' split
  all_goals omega
theorem zbri_q {x y sz : Int} {ms ph od : Nat → Int} {pi : Nat → Int64} {se : Nat → Int} (hG : zG ms sz ph od pi se) : qR (zbri x y sz ph od se) := by
  obtain ⟨hR, ho, hs, hph⟩ := hG
  have hs0 := hs.1
  have hl := zlit_b ho hs.2.1 x
  have h : (0 ≤ y ∧ y < se 0) → 0 ≤ zshine ph (se 0) (zlit sz od se x) x y ∧ zshine ph (se 0) (zlit sz od se x) x y ≤ 100 := fun c => zshine_b (by omega) hl c
  unfold zbri
  refine qR_i ?_ ?_
  all_goals split
  all_goals omega
theorem zfstN_b (f : Nat → Int) : ∀ n k : Nat, -9 ≤ zfstN f n k ∧ zfstN f n k ≤ n + k
  | 0, k => by rw [zfstN]; omega
  | n + 1, k => by
    have ih := zfstN_b f n (k + 1)
    rw [zfstN]
    split
    all_goals omega
theorem zfst_q (f : Nat → Int) (x : Int) : qR (if 0 ≤ x ∧ x < 2 then zfst f else -1) := by
  have h := zfstN_b f 64 0
  unfold zfst
  refine qR_i ?_ ?_
  all_goals split
  all_goals omega
theorem zbs_b (U : Int → Int) : ∀ (n : Nat) (b a : Int), (0 ≤ b ∧ b ≤ 1000) → 0 ≤ a → a + n ≤ 1000 → 0 ≤ zbs U n b a ∧ zbs U n b a ≤ 1000
  | 0, b, a, h, _, _ => h
  | n + 1, b, a, h, h1, h2 => by
    rw [zbs]
    refine zbs_b U n _ _ ?_ (by omega) (by omega)
    split
    all_goals omega
theorem zbest_q {x sz : Int} {ms ph od : Nat → Int} {pi : Nat → Int64} {se : Nat → Int} (hG : zG ms sz ph od pi se) : qR (if 0 ≤ x ∧ x < 2 then zbest x sz ph od pi se else -1) := by
  have hs0 := hG.2.2.1.1
  have h1 := zbs_b (fun a => zU sz ph od pi se a (se 4)) (se 0 - 1).toNat 0 1 (by decide) (by decide) (by omega)
  have h2 := zU_b sz ph od pi se (zbs (fun a => zU sz ph od pi se a (se 4)) (se 0 - 1).toNat 0 1) (se 4)
  unfold zbest
  refine qR_i ?_ ?_
  all_goals repeat' split
  all_goals omega
theorem zbst_b (c : Int → Int) (S : Int → Bool) (m : Nat) : -1 ≤ zbst c S m ∧ zbst c S m ≤ m := by
  rcases zbst_s c S m with ⟨h, -⟩ | ⟨b, h1, h2, -⟩ <;> omega
theorem zpth_b : ∀ (n : Nat) (S : Int → Bool) (f : Int) (p : Nat), -9 ≤ zpth n S f p ∧ zpth n S f p ≤ 64
  | 0, _, _, _ => by
    unfold zpth
    omega
  | n + 1, S, f, p => by
    have ih := zpth_b n (zdel S (znx n S f)) (znx n S f) (p - 1)
    have hb := zbst_b (zcost (zT n) S f) S 64
    have e : znx n S f = zbst (zcost (zT n) S f) S 64 := rfl
    simp only [zpth]
    split
    all_goals omega
theorem zlt_q {t : Nat} {x : Int} {od : Nat → Int} (ho : zOk (t : Int) od) : qR (zT t (zAll od t) 0) ∧ qR (zpth t (zAll od t) 0 x.toNat) := by
  have hl := zLst_of ho
  have h1 := zT_b (S := zAll od t) t (zAll od t) 0 (fun k hk => zmem_v hl k hk) (by decide)
  have h2 := zpth_b t (zAll od t) 0 x.toNat
  have h3 := hl.1
  exact ⟨(qR_i (by omega) (by omega)), (qR_i (by omega) (by omega))⟩
theorem zlg_b (U : Int → Int) : ∀ n : Nat, -9 ≤ zlg U n ∧ zlg U n ≤ n
  | 0 => by
    unfold zlg
    omega
  | n + 1 => by
    have ih := zlg_b U n
    rw [zlg]
    split
    all_goals omega
theorem zlg_q (U : Int → Int) : qR (zlg U 50) := by
  have := zlg_b U 50
  exact (qR_i (by omega) (by omega))
theorem ztick_q {x y : Int} : qR (if (0 ≤ x ∧ x < 4) ∧ 1 ≤ y ∧ y ≤ 100 then zabv x y else -1) := by
  have h : 1 ≤ y → 0 ≤ zabv x y ∧ zabv x y ≤ 35 := fun c => zabv_b c
  refine qR_i ?_ ?_
  all_goals split
  all_goals omega
theorem zshort_q {ms : Nat → Int} {sz : Int} {ph od : Nat → Int} {pi : Nat → Int64} {se : Nat → Int} (hG : zG ms sz ph od pi se) : qR (zshort sz od se) := by
  have ho1 := hG.2.1.1
  have hb := zA_b hG.2.1 hG.2.2.1.2.1 sz.toNat (by omega)
  unfold zshort
  refine qR_i ?_ ?_
  all_goals repeat' split
  all_goals omega
