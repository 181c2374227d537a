/-! PURE 17: leastTravel on both sides -/
theorem zun_f {m j : Nat} (h : zun m j = true) : m.testBit j = false := by
  unfold zun at h
  cases hb : m.testBit j
  · rfl
  · rw [hb] at h
    exact absurd h (by decide)
theorem zun_t {m j : Nat} (h : m.testBit j = false) : zun m j = true := by
  unfold zun
  rw [h]
  rfl
/-- the spots of the order are the spots of the set -/
theorem zsp_od {t : Nat} {od : Nat → Int} (ho : zOk (t : Int) od) {r : Int64} (hr : ∀ k : Nat, k < 64 → zb r k = if zpos (t : Int) od k = -9 then 0 else 1) : zsp r = zAll od t ∧ zcnt (zb r) 64 = t := by
  constructor
  · apply zset_ext
    intro k
    unfold zsp zAll
    rw [zmem_iff, decide_eq_true_eq]
    constructor
    · rintro ⟨k1, k2, k3⟩
      rw [hr _ (by omega), show ((k.toNat : Nat) : Int) = k by omega] at k3
      rcases zpos_cases (t : Int) od k with ⟨q, -⟩ | ⟨j, j1, j2, -⟩
      · rw [if_pos q] at k3
        omega
      · exact ⟨j, by omega, rfl, j2⟩
    · rintro ⟨j, j1, -, j3⟩
      have hv := ho.2.1 j (by omega)
      refine ⟨by omega, by omega, ?_⟩
      rw [hr _ (by omega), show ((k.toNat : Nat) : Int) = k by omega, zpos_some ho (k := j) (by omega) j3, if_neg (by omega)]
  · have hc := zcnt_ord ho t (by omega)
    rw [← hc]
    refine zcnt_c 64 (fun k hk => ?_)
    rw [hr k hk]
    rfl
theorem s_X4_leastTravel {t : Nat} {x tz ts : Int} {pn : Int64} {sp rs so od : Nat → Int} {Φ : Int → Int64 → Int → Int → (Nat → Int) → (Nat → Int) → (Nat → Int) → Prop} (ho : zOk (t : Int) od) (hP : zPl pn tz ts so) (hx : qR x) (h1 : x < -1 → Φ (-1) pn tz ts sp rs so) (h2 : -1 ≤ x → ∀ (pn' : Int64) (tz' ts' : Int) (sp' rs' so' : Nat → Int), zPl pn' tz' ts' so' → Φ (if x = -1 then zT t (zAll od t) 0 else if x < t then zpth t (zAll od t) 0 x.toNat else -9) pn' tz' ts' sp' rs' so') : wp_X4_leastTravel x pn tz ts sp rs so (t : Int) od Φ := by
  have hl := zLst_of ho
  have h12 := hl.1
  unfold wp_X4_leastTravel wp_X4_leastTravel_46
  refine ⟨⟨hx, by decide⟩, fun c => s_X1_spotsOfOrder ho (fun r hr => ?_), fun c => h1 (by omega)⟩
  have hs := zsp_od ho hr
  refine s_X3_plan (by rw [hs.2]; omega) hP (fun tz' ts' sp' rs' so' hP' => ⟨hx, fun c2 => ?_, fun c2 => ?_⟩)
  · obtain ⟨t', p1, p2, p3, p4, p5⟩ := id hP'
    have ht : t' = t := by
      rw [hs.2] at p3
      omega
    subst ht
    have q := h2 c _ _ _ sp' rs' so' hP'
    rw [if_neg (by omega)] at q
    unfold wp_X3_stop wp_X3_stop_21 wp_X3_stop_23
    rw [p1] at q ⊢
    refine ⟨hx, fun c3 => absurd c3 (by omega), fun c3 => ⟨⟨hx, (qR_i (by omega) (by omega))⟩, fun c4 => ?_, fun c4 => ⟨⟨by omega, by omega⟩, fun v3 e3 => ?_⟩⟩⟩
    · rwa [if_neg (by omega)] at q
    · rw [if_pos (by omega)] at q
      rw [e3, p5 _ (by omega), hs.1]
      exact q
  · obtain ⟨t', p1, p2, p3, p4, p5⟩ := id hP'
    have ht : t' = t := by
      rw [hs.2] at p3
      omega
    subst ht
    have q := h2 c _ _ _ sp' rs' so' hP'
    rw [if_pos (by omega), ← hs.1, ← p4] at q
    unfold wp_X3_sumOfWays
    exact q
