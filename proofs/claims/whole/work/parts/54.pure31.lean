/-! PURE 31: the law: class and model agree at every call -/
theorem zW_take0 {ms g tk : Nat → Int} {c x y : qSc} (hW : zW ms (tk, c, x, y)) (h1 : g (211 + 212 * 0) = 1) (h2 : ∀ k : Nat, k < 211 → g (212 + 212 * 0 + k) = ms k) (h3 : ∀ k : Nat, k < 211 + 212 * 0 ∨ 423 + 212 * 0 ≤ k → g k = ms k) : zW g (qU tk 0 1, c, c, y) := by
  obtain ⟨a, ⟨b1, b2⟩, ⟨c1, c2⟩, d, e⟩ := hW
  refine ⟨zG_c (fun k hk => h3 k (by omega)) a, ⟨h1, Or.inr rfl⟩, ⟨(h3 423 (by omega)).trans c1, c2⟩, fun _ => ?_, fun z => ?_⟩
  · exact zG_c (fun k hk => h2 k hk) a
  · exact zG_c (fun k hk => h3 (424 + k) (by omega)) (e z)
theorem zW_take1 {ms g tk : Nat → Int} {c x y : qSc} (hW : zW ms (tk, c, x, y)) (h1 : g (211 + 212 * 1) = 1) (h2 : ∀ k : Nat, k < 211 → g (212 + 212 * 1 + k) = ms k) (h3 : ∀ k : Nat, k < 211 + 212 * 1 ∨ 423 + 212 * 1 ≤ k → g k = ms k) : zW g (qU tk 1 1, c, x, c) := by
  obtain ⟨a, ⟨b1, b2⟩, ⟨c1, c2⟩, d, e⟩ := hW
  refine ⟨zG_c (fun k hk => h3 k (by omega)) a, ⟨(h3 211 (by omega)).trans b1, b2⟩, ⟨h1, Or.inr rfl⟩, fun z => ?_, fun _ => ?_⟩
  · exact zG_c (fun k hk => h3 (212 + k) (by omega)) (d z)
  · exact zG_c (fun k hk => h2 k hk) a
theorem zW_rest0 {ms g tk : Nat → Int} {c x y : qSc} (hW : zW ms (tk, c, x, y)) (h1 : tk 0 = 1) (h2 : ∀ k : Nat, k < 211 → g k = ms (212 + 212 * 0 + k)) (h3 : ∀ k : Nat, 211 ≤ k → g k = ms k) : zW g (tk, x, x, y) := zW_s hW (zG_c (fun k hk => h2 k hk) (hW.2.2.2.1 h1)) (fun k hk _ => h3 k hk)
theorem zW_rest1 {ms g tk : Nat → Int} {c x y : qSc} (hW : zW ms (tk, c, x, y)) (h1 : tk 1 = 1) (h2 : ∀ k : Nat, k < 211 → g k = ms (212 + 212 * 1 + k)) (h3 : ∀ k : Nat, 211 ≤ k → g k = ms k) : zW g (tk, y, x, y) := zW_s hW (zG_c (fun k hk => h2 k hk) (hW.2.2.2.2 h1)) (fun k hk _ => h3 k hk)
/-- class and model agree -/
def zI (sm le : Int) (ms mv mt : Nat → Int) (kp tl : Int) (tx : Nat → Int) (pn : Int64) (tz ts : Int) (so : Nat → Int) (st : qSt) (hc : Nat → qSt) : Prop := zW ms st ∧ zH sm kp mv hc ∧ (le = tl ∧ zTx tl tx ∧ zTm tl tx mt) ∧ zPl pn tz ts so
set_option maxHeartbeats 4000000 in
set_option maxRecDepth 100000 in
theorem L_law_ok (L : Nat) (xs : Nat → Int32) (hL : L ≤ 2048) : ∀ (n0 : Nat) (x3 : Int), (0 ≤ x3 ∧ x3 ≤ L) → (L : Int) - x3 ≤ n0 → ∀ {th : Int} {sm : Int} {le : Int} {mk9 : Int} {fr : Int} {ti : Int} {fa : Int} {ms : Nat → Int} {ma : Nat → Int} {mv : Nat → Int} {mt : Nat → Int} {mn : Nat → Int} {ml : Nat → Int} {mr : Nat → Int} {kp : Int} {tl : Int} {pp : Int} {tx : Nat → Int} {nu : Nat → Int} {pn : Int64} {tz : Int} {ts : Int} {sp : Nat → Int} {rs : Nat → Int} {so : Nat → Int} {wa : Nat → Int} {tk : Nat → Int} {szs : Int} {phs : Nat → Int} {ods : Nat → Int} {pis : Nat → Int64} {ses : Nat → Int} {szx : Int} {phx : Nat → Int} {odx : Nat → Int} {pix : Nat → Int64} {sex : Nat → Int} {szy : Int} {phy : Nat → Int} {ody : Nat → Int} {piy : Nat → Int64} {sey : Nat → Int} {ha : Nat → Nat → Nat} {hc : Nat → qSt}, zI sm le ms mv mt kp tl tx pn tz ts so (tk, (szs, phs, ods, pis, ses), (szx, phx, odx, pix, sex), (szy, phy, ody, piy, sey)) hc → wp_L_law_18 L xs (n0 + 1) x3 th sm le mk9 fr ti fa ms ma mv mt mn ml mr kp tl pp tx nu pn tz ts sp rs so wa tk szs phs ods pis ses szx phx odx pix sex szy phy ody piy sey ha hc := by
  intro n0
  induction n0 with
  | zero =>
    intro x3 hx3 hm th sm le mk9 fr ti fa ms ma mv mt mn ml mr kp tl pp tx nu pn tz ts sp rs so wa tk szs phs ods pis ses szx phx odx pix sex szy phy ody piy sey ha hc hI
    unfold wp_L_law_18
    exact ⟨⟨(qR_i (by omega) (by omega)), (qR_i (by omega) (by omega))⟩, fun _ => rfl, fun c => absurd (show (L : Int) - 4 < x3 by omega) c⟩
  | succ n0 ih =>
    intro x3 hx3 hm th sm le mk9 fr ti fa ms ma mv mt mn ml mr kp tl pp tx nu pn tz ts sp rs so wa tk szs phs ods pis ses szx phx odx pix sex szy phy ody piy sey ha hc hI
    obtain ⟨hW, ⟨rfl, hk, hh⟩, ⟨rfl, hTx, hTm⟩, hP⟩ := hI
    unfold wp_L_law_18
    refine ⟨⟨(qR_i (by omega) (by omega)), (qR_i (by omega) (by omega))⟩, fun _ => rfl, fun c => ⟨⟨by omega, by omega⟩, fun v3 e3 v4 e4 => ?_⟩⟩
    have go : ∀ {th : Int} {sm : Int} {le : Int} {mk9 : Int} {fr : Int} {ti : Int} {fa : Int} {ms : Nat → Int} {ma : Nat → Int} {mv : Nat → Int} {mt : Nat → Int} {mn : Nat → Int} {ml : Nat → Int} {mr : Nat → Int} {kp : Int} {tl : Int} {pp : Int} {tx : Nat → Int} {nu : Nat → Int} {pn : Int64} {tz : Int} {ts : Int} {sp : Nat → Int} {rs : Nat → Int} {so : Nat → Int} {wa : Nat → Int} {tk : Nat → Int} {szs : Int} {phs : Nat → Int} {ods : Nat → Int} {pis : Nat → Int64} {ses : Nat → Int} {szx : Int} {phx : Nat → Int} {odx : Nat → Int} {pix : Nat → Int64} {sex : Nat → Int} {szy : Int} {phy : Nat → Int} {ody : Nat → Int} {piy : Nat → Int64} {sey : Nat → Int} {ha : Nat → Nat → Nat} {hc : Nat → qSt}, zI sm le ms mv mt kp tl tx pn tz ts so (tk, (szs, phs, ods, pis, ses), (szx, phx, odx, pix, sex), (szy, phy, ody, piy, sey)) hc → wp_L_law_699 L xs (wp_L_law_18 L xs (n0 + 1)) x3 th sm le mk9 fr ti fa ms ma mv mt mn ml mr kp tl pp tx nu pn tz ts sp rs so wa tk szs phs ods pis ses szx phx odx pix sex szy phy ody piy sey ha hc := by
      intro th sm le mk9 fr ti fa ms ma mv mt mn ml mr kp tl pp tx nu pn tz ts sp rs so wa tk szs phs ods pis ses szx phx odx pix sex szy phy ody piy sey ha hc hI
      unfold wp_L_law_699
      intro v1 e1
      rw [e1]
      exact ih (x3 + 4) (by omega) (by omega) hI
    clear ih
    have fin : ∀ {r : Int} {P : Prop}, qR r → P → ((qR r ∧ qR r) ∧ (r = r → P) ∧ (¬ (r = r) → ((0 : Int) = 1))) := fun h p => ⟨⟨h, h⟩, fun _ => p, fun z => absurd rfl z⟩
    have hq : ∀ {v : Int} {k : Nat}, v = (xs k).toInt → qR v := fun e => by rw [e]; exact qR_of _
    have hH : zH sm sm mv hc := ⟨rfl, hk, hh⟩
    have hT : le = le ∧ zTx le tx ∧ zTm le tx mt := ⟨rfl, hTx, hTm⟩
    have ht1 := hTx.1
    have hG : zG ms szs phs ods pis ses := hW.1
    have g0 : ms 211 = tk 0 := hW.2.1.1
    have g1 : ms 423 = tk 1 := hW.2.2.1.1
    have f0 : tk 0 = 0 ∨ tk 0 = 1 := hW.2.1.2
    have f1 : tk 1 = 0 ∨ tk 1 = 1 := hW.2.2.1.2
    have gx : tk 0 = 1 → zG (fun k => ms (212 + k)) szx phx odx pix sex := hW.2.2.2.1
    have gy : tk 1 = 1 → zG (fun k => ms (424 + k)) szy phy ody piy sey := hW.2.2.2.2
    have hms : ∀ a : Nat, a < 2 → ms (211 + 212 * a) = tk a := fun a ha => by
      rcases (show a = 0 ∨ a = 1 by omega) with rfl | rfl
      · exact g0
      · exact g1
    have hfl : ∀ (v : Int) (a : Nat), v = a → a < 2 → ms (211 + 212 * a) = 0 ∨ ms (211 + 212 * a) = 1 := fun v a _ ha => by
      rcases (show a = 0 ∨ a = 1 by omega) with rfl | rfl
      · rw [hms 0 ha]; exact f0
      · rw [hms 1 ha]; exact f1
    have hsz := hG.2.1.1
    have m6 : ms 6 = szs := hG.1.2.1
    refine ⟨by rw [e4]; exact qR_of _, fun c0 => go ⟨hW, hH, hT, hP⟩, fun c0 => ?_, fun c0 => ?_, fun c0 => ?_, fun c0 => ?_, fun c0 => ?_, fun c0 => ?_, fun c0 => ?_, fun c0 => ?_, fun c0 => ?_, fun c0 => ?_, fun c0 => ?_, fun c0 => ?_, fun c0 => ?_, fun c0 => ?_, fun c0 => ?_, fun c0 => ?_, fun c0 => ?_, fun c0 => ?_, fun c0 => ?_, fun c0 => ?_, fun c0 => ?_, fun c0 => ?_, fun c0 => ?_⟩
    · refine ⟨⟨by omega, by omega⟩, fun v5 e5 => ⟨⟨by omega, by omega⟩, fun v6 e6 => a_set hW hH (hq e5) (hq e6) (fun r se' kp' ha' hc' hr hn => ⟨⟨by omega, by omega⟩, fun v12 e12 => ⟨⟨by omega, by omega⟩, fun v13 e13 => ?_⟩⟩)⟩⟩
      rw [e12, ← e5, e13, ← e6]
      have hrb := zsetR_b hG.2.2.1 hr
      refine m_set hG hk (hq e5) (hq e6) hr (fun d => ?_) (fun d sm' g gv hact hg hf => ?_)
      · rw [zsetR_n hG.2.2.1 hr d]
        exact fin (qR_i (by omega) (by omega)) (go ⟨hW, hn.1 d, hT, hP⟩)
      · exact fin (qR_i (by omega) (by omega)) (go ⟨zW_s hW hg (fun k h _ => hf k h), hn.2 d sm' gv hact, hT, hP⟩)
    · refine ⟨⟨by omega, by omega⟩, fun v5 e5 => ⟨⟨by omega, by omega⟩, fun v6 e6 => a_setPhosphor hW hH (hq e5) (hq e6) (fun r ph' kp' ha' hc' hr hn => ⟨⟨by omega, by omega⟩, fun v12 e12 => ⟨⟨by omega, by omega⟩, fun v13 e13 => ?_⟩⟩)⟩⟩
      rw [e12, ← e5, e13, ← e6]
      have hrb := zkindR_b hG.2.2.2 hr
      refine m_setPhosphor hG hk (hq e5) (hq e6) hr (fun d => ?_) (fun d sm' g gv hact hg hf => ?_)
      · rw [zkindR_n hG.2.2.2 hr d]
        exact fin (qR_i (by omega) (by omega)) (go ⟨hW, hn.1 d, hT, hP⟩)
      · exact fin (qR_i (by omega) (by omega)) (go ⟨zW_s hW hg (fun k h _ => hf k h), hn.2 d sm' gv hact, hT, hP⟩)
    · refine ⟨⟨by omega, by omega⟩, fun v5 e5 => a_light hW hH (hq e5) (fun r sz' od' kp' ha' hc' hr hn => ⟨⟨by omega, by omega⟩, fun v12 e12 => ?_⟩)⟩
      rw [e12, ← e5]
      have hrb := zlightR_b hG.2.1 hr
      refine m_light hG hk (hq e5) hr (fun d => ?_) (fun d sm' g gv hact hg hf => ?_)
      · rw [(zlightR_n hG.2.1 hr d).1, (zlightR_n hG.2.1 hr d).2]
        exact fin (qR_i (by omega) (by omega)) (go ⟨hW, hn.1 d, hT, hP⟩)
      · exact fin (qR_i (by omega) (by omega)) (go ⟨zW_s hW hg (fun k h _ => hf k h), hn.2 d sm' gv hact, hT, hP⟩)
    · refine ⟨⟨by omega, by omega⟩, fun v5 e5 => a_darken hW hH (hq e5) (fun r sz' od' kp' ha' hc' hr hn => ⟨⟨by omega, by omega⟩, fun v12 e12 => ?_⟩)⟩
      rw [e12, ← e5]
      have hrb := zdarkR_b hG.2.1 hr
      refine m_darken hG hk (hq e5) hr (fun d => ?_) (fun d sm' g gv hact hg hf => ?_)
      · rw [(zdarkR_n hr d).1, (zdarkR_n hr d).2]
        exact fin (qR_i (by omega) (by omega)) (go ⟨hW, hn.1 d, hT, hP⟩)
      · exact fin (qR_i (by omega) (by omega)) (go ⟨zW_s hW hg (fun k h _ => hf k h), hn.2 d sm' gv hact, hT, hP⟩)
    · refine ⟨⟨by omega, by omega⟩, fun v5 e5 => ⟨⟨by omega, by omega⟩, fun v6 e6 => a_exchange hW hH (hq e5) (hq e6) (fun r od' kp' ha' hc' hr hn => ⟨⟨by omega, by omega⟩, fun v12 e12 => ⟨⟨by omega, by omega⟩, fun v13 e13 => ?_⟩⟩)⟩⟩
      rw [e12, ← e5, e13, ← e6]
      have hrb := zswapR_b hG.2.1 hr
      refine m_exchange hG hk (hq e5) (hq e6) hr (fun d => ?_) (fun d sm' g gv gl hact hg hf => ?_)
      · rw [zswapR_n hG.2.1 hr d]
        exact fin (qR_i (by omega) (by omega)) (go ⟨hW, hn.1 d, hT, hP⟩)
      · exact fin (qR_i (by omega) (by omega)) (go ⟨zW_s hW hg (fun k h _ => hf k h), hn.2 d sm' gv hact, hT, hP⟩)
    · refine ⟨⟨by omega, by omega⟩, fun v5 e5 => a_sort hW hH (hq e5) (fun r od' kp' ha' hc' hr hn => ⟨⟨by omega, by omega⟩, fun v12 e12 => ?_⟩)⟩
      rw [e12, ← e5]
      have hrb := zsortR_b hG.2.1 hr
      refine m_sort hG hk (hq e5) hr (fun d => ?_) (fun d sm' g gv gl hact hg hf => ?_)
      · rw [zsortR_n hr d]
        exact fin (qR_i (by omega) (by omega)) (go ⟨hW, hn.1 d, hT, hP⟩)
      · exact fin (qR_i (by omega) (by omega)) (go ⟨zW_s hW hg (fun k h _ => hf k h), hn.2 d sm' gv hact, hT, hP⟩)
    · refine ⟨⟨by omega, by omega⟩, fun v5 e5 => ⟨⟨by omega, by omega⟩, fun v6 e6 => ⟨⟨by omega, by omega⟩, fun v7 e7 => a_draw hW hH (hq e5) (hq e6) (hq e7) (fun r pi' kp' ha' hc' hr hn => ⟨⟨by omega, by omega⟩, fun v12 e12 => ⟨⟨by omega, by omega⟩, fun v13 e13 => ⟨⟨by omega, by omega⟩, fun v14 e14 => ?_⟩⟩⟩)⟩⟩⟩
      rw [e12, ← e5, e13, ← e6, e14, ← e7]
      have hrb := zdrawR_b hr
      refine m_draw hG hk (hq e5) (hq e6) (hq e7) hr (fun d => ?_) (fun d sm' g gv hact hg hf => ?_)
      · rw [zdrawR_n hr d]
        exact fin (qR_i (by omega) (by omega)) (go ⟨hW, hn.1 d, hT, hP⟩)
      · exact fin (qR_i (by omega) (by omega)) (go ⟨zW_s hW hg (fun k h _ => hf k h), hn.2 d sm' gv hact, hT, hP⟩)
    · refine ⟨⟨by omega, by omega⟩, fun v5 e5 => a_take hW hH (hq e5) (fun d kp' ha' hc' hn => ⟨⟨by omega, by omega⟩, fun v12 e12 => ?_⟩) (fun d kp' ha' hc' hn => ⟨⟨by omega, by omega⟩, fun v12 e12 => ?_⟩) (fun d kp' ha' hc' hn => ⟨⟨by omega, by omega⟩, fun v12 e12 => ?_⟩)⟩
      · rw [e12, ← e5]
        exact m_take hk (hq e5) (fun _ => fin (by decide) (go ⟨hW, hn.1 (by decide), hT, hP⟩)) (fun a ea ha2 => (d ⟨by omega, by omega⟩).elim)
      · rw [e12, ← e5]
        refine m_take hk (hq e5) (fun z => (z ⟨by omega, by omega⟩).elim) (fun a ea ha2 sm' g gv hact h1 h2 h3 => ?_)
        obtain rfl : a = 0 := by omega
        rw [m6]
        exact fin (qR_i (by omega) (by omega)) (go ⟨zW_take0 hW h1 h2 h3, hn.2 hsz.1 sm' gv hact, hT, hP⟩)
      · rw [e12, ← e5]
        refine m_take hk (hq e5) (fun z => (z ⟨by omega, by omega⟩).elim) (fun a ea ha2 sm' g gv hact h1 h2 h3 => ?_)
        obtain rfl : a = 1 := by omega
        rw [m6]
        exact fin (qR_i (by omega) (by omega)) (go ⟨zW_take1 hW h1 h2 h3, hn.2 hsz.1 sm' gv hact, hT, hP⟩)
    · refine ⟨⟨by omega, by omega⟩, fun v5 e5 => a_restore hW hH (hq e5) (fun d kp' ha' hc' hn => ⟨⟨by omega, by omega⟩, fun v12 e12 => ?_⟩) (fun d d2 kp' ha' hc' hn => ⟨⟨by omega, by omega⟩, fun v12 e12 => ?_⟩) (fun d d2 kp' ha' hc' hn => ⟨⟨by omega, by omega⟩, fun v12 e12 => ?_⟩) (fun d d2 kp' ha' hc' hn => ⟨⟨by omega, by omega⟩, fun v12 e12 => ?_⟩)⟩
      · rw [e12, ← e5]
        exact m_restore hk (hq e5) (fun _ => fin (by decide) (go ⟨hW, hn.1 (by decide), hT, hP⟩)) (hfl v5) (fun a ea ha2 => (d ⟨by omega, by omega⟩).elim) (fun a ea ha2 => (d ⟨by omega, by omega⟩).elim)
      · rw [e12, ← e5]
        refine m_restore hk (hq e5) (fun z => (z d).elim) (hfl v5) (fun a ea ha2 hz => fin (by decide) (go ⟨hW, hn.1 (by decide), hT, hP⟩)) (fun a ea ha2 hz => ?_)
        rw [hms a ha2] at hz
        rw [show v5.toNat = a by omega] at d2
        omega
      · rw [e12, ← e5]
        have hb := (gx d2).2.1.1
        refine m_restore hk (hq e5) (fun z => (z ⟨by omega, by omega⟩).elim) (hfl v5) (fun a ea ha2 hz => ?_) (fun a ea ha2 hz sm' g gv hact h2 h3 => ?_)
        · obtain rfl : a = 0 := by omega
          rw [hms 0 ha2] at hz
          omega
        · obtain rfl : a = 0 := by omega
          have e6 : ms (212 + 212 * 0 + 6) = szx := (gx d2).1.2.1
          rw [e6]
          exact fin (qR_i (by omega) (by omega)) (go ⟨zW_rest0 hW d2 h2 h3, hn.2 hb.1 sm' gv hact, hT, hP⟩)
      · rw [e12, ← e5]
        have hb := (gy d2).2.1.1
        refine m_restore hk (hq e5) (fun z => (z ⟨by omega, by omega⟩).elim) (hfl v5) (fun a ea ha2 hz => ?_) (fun a ea ha2 hz sm' g gv hact h2 h3 => ?_)
        · obtain rfl : a = 1 := by omega
          rw [hms 1 ha2] at hz
          omega
        · obtain rfl : a = 1 := by omega
          have e6 : ms (212 + 212 * 1 + 6) = szy := (gy d2).1.2.1
          rw [e6]
          exact fin (qR_i (by omega) (by omega)) (go ⟨zW_rest1 hW d2 h2 h3, hn.2 hb.1 sm' gv hact, hT, hP⟩)
    · refine a_undo hH (fun k0 => ?_) (fun k1 => ?_)
      · exact m_undo hk (fun _ => fin (by decide) (go ⟨hW, hH, hT, hP⟩)) (fun z => absurd z (by omega))
      · refine m_undo hk (fun z => absurd z (by omega)) (fun _ g hg => fin (qR_i (by omega) (by omega)) (go ⟨?_, ?_, hT, hP⟩))
        · exact zW_c (hh (sm - 1).toNat (by omega)) (fun k hk => hg k hk) rfl rfl rfl
        · exact ⟨rfl, by omega, fun i hi => hh i (by omega)⟩
    · refine ⟨⟨by omega, by omega⟩, fun v5 e5 => a_append hTx (hq e5) (fun d => ⟨⟨by omega, by omega⟩, fun v12 e12 => ?_⟩) (fun d d2 => ⟨⟨by omega, by omega⟩, fun v12 e12 => ?_⟩) (fun d d2 => ⟨⟨by omega, by omega⟩, fun v12 e12 => ?_⟩)⟩
      · rw [e12, ← e5]
        exact m_append hTx (hq e5) (fun _ => fin (by decide) (go ⟨hW, hH, hT, hP⟩)) (fun z => (d z).elim) (fun z => (d z).elim)
      · rw [e12, ← e5]
        exact m_append hTx (hq e5) (fun z => (z d).elim) (fun _ _ => fin (by decide) (go ⟨hW, hH, hT, hP⟩)) (fun _ z => absurd z (by omega))
      · rw [e12, ← e5]
        exact m_append hTx (hq e5) (fun z => (z d).elim) (fun _ z => absurd z (by omega)) (fun _ _ => fin (qR_i (by omega) (by omega)) (go ⟨hW, hH, ⟨rfl, zTx_app hTx d d2, zTm_app hTm⟩, hP⟩))
    · unfold wp_X4_clearText wp_X0_empty wp_X5_clearText
      exact fin (qR_i (by omega) (by omega)) (go ⟨hW, hH, ⟨rfl, zTx_0 _, zTm_0 _ _⟩, hP⟩)
    · refine a_run hW hH hTx (fun n res sz' ph' od' pi' pp' nu' hrun hres => ⟨fun d tk' hc' t0 t1 hh' => ?_, fun d hok kp' ha' hc' hn => ?_⟩)
      · exact s_X5_run hTx hTm hk hG hrun hres (fun _ tk2 fr2 ti2 fa2 g ga gn gl hg => fin (qR_i (by omega) (by omega)) (go ⟨zW_c hW hg rfl t0 t1, hh', hT, hP⟩)) (fun z => absurd z (by omega))
      · exact s_X5_run hTx hTm hk hG hrun hres (fun z => absurd z (by omega)) (fun _ tk2 fr2 ti2 fa2 sm' g ga gv gn gl hact hg hf => fin (qR_i (by omega) (by omega)) (go ⟨zW_s hW hg hf, hn.2 d sm' gv hact, ⟨rfl, zTx_0 _, zTm_0 _ _⟩, hP⟩))
    · refine ⟨⟨by omega, by omega⟩, fun v5 e5 => a_count hG f0 f1 (hq e5) ⟨⟨by omega, by omega⟩, fun v12 e12 => ?_⟩⟩
      rw [e12, ← e5]
      exact m_count hG g0 g1 (hq e5) (fun g => fin (zcount_q hG f0 f1 hk ht1) (go ⟨hW, hH, hT, hP⟩))
    · refine ⟨⟨by omega, by omega⟩, fun v5 e5 => ⟨⟨by omega, by omega⟩, fun v6 e6 => a_spot hG (hq e5) (hq e6) ⟨⟨by omega, by omega⟩, fun v12 e12 => ⟨⟨by omega, by omega⟩, fun v13 e13 => ?_⟩⟩⟩⟩
      rw [e12, ← e5, e13, ← e6]
      exact m_spot hG (hq e5) (hq e6) (fun g => fin (zspot_q hG) (go ⟨hW, hH, hT, hP⟩))
    · refine ⟨⟨by omega, by omega⟩, fun v5 e5 => a_at hG.2.1 (hq e5) ⟨⟨by omega, by omega⟩, fun v12 e12 => ?_⟩⟩
      rw [e12, ← e5]
      exact m_at hG (hq e5) (fin (zat_q hG.2.1) (go ⟨hW, hH, hT, hP⟩))
    · refine ⟨⟨by omega, by omega⟩, fun v5 e5 => ⟨⟨by omega, by omega⟩, fun v6 e6 => a_brightness hG (hq e5) (hq e6) ⟨⟨by omega, by omega⟩, fun v12 e12 => ⟨⟨by omega, by omega⟩, fun v13 e13 => ?_⟩⟩⟩⟩
      rw [e12, ← e5, e13, ← e6]
      exact m_brightness hG (hq e5) (hq e6) (fun g => fin (zbri_q hG) (go ⟨hW, hH, hT, hP⟩))
    · refine ⟨⟨by omega, by omega⟩, fun v5 e5 => a_firstWrong hG (hq e5) ⟨⟨by omega, by omega⟩, fun v12 e12 => ?_⟩⟩
      rw [e12, ← e5]
      exact m_firstWrong hG (hq e5) (fun g => fin (zfst_q _ _) (go ⟨hW, hH, hT, hP⟩))
    · refine ⟨⟨by omega, by omega⟩, fun v5 e5 => a_bestStart hG (hq e5) (fun g => ⟨⟨by omega, by omega⟩, fun v12 e12 => ?_⟩)⟩
      rw [e12, ← e5]
      exact m_bestStart hG (hq e5) (fun g => fin (zbest_q hG) (go ⟨hW, hH, hT, hP⟩))
    · obtain ⟨t, rfl⟩ := Int.eq_ofNat_of_zero_le hsz.1
      refine ⟨⟨by omega, by omega⟩, fun v5 e5 => s_X4_leastTravel hG.2.1 hP (hq e5) (fun d => ⟨⟨by omega, by omega⟩, fun v12 e12 => ?_⟩) (fun d pn' tz' ts' sp' rs' so' hP' => ⟨⟨by omega, by omega⟩, fun v12 e12 => ?_⟩)⟩
      · rw [e12, ← e5]
        exact s_X5_leastTravel hG (hq e5) (fun _ a g => fin (by decide) (go ⟨hW, hH, hT, hP⟩)) (fun z => absurd z (by omega)) (fun z => absurd z (by omega)) (fun z => absurd z (by omega))
      · rw [e12, ← e5]
        have hq2 := zlt_q (x := v5) hG.2.1
        rcases (show v5 = -1 ∨ (0 ≤ v5 ∧ v5 < t) ∨ (t : Int) ≤ v5 by omega) with d2 | d2 | d2
        · rw [if_pos d2]
          exact s_X5_leastTravel hG (hq e5) (fun z => absurd z (by omega)) (fun z => absurd z (by omega)) (fun _ a g => fin hq2.1 (go ⟨hW, hH, hT, hP'⟩)) (fun z => absurd z (by omega))
        · rw [if_neg (show ¬ v5 = -1 by omega), if_pos d2.2]
          exact s_X5_leastTravel hG (hq e5) (fun z => absurd z (by omega)) (fun z => absurd z (by omega)) (fun z => absurd z (by omega)) (fun _ _ a g => fin hq2.2 (go ⟨hW, hH, hT, hP'⟩))
        · rw [if_neg (show ¬ v5 = -1 by omega), if_neg (show ¬ v5 < t by omega)]
          exact s_X5_leastTravel hG (hq e5) (fun z => absurd z (by omega)) (fun _ a g => fin (by decide) (go ⟨hW, hH, hT, hP'⟩)) (fun z => absurd z (by omega)) (fun _ z => absurd z (by omega))
    · exact a_longest hG (m_longest hG (fun g => fin (zlg_q _) (go ⟨hW, hH, hT, hP⟩)))
    · refine ⟨⟨by omega, by omega⟩, fun v5 e5 => ⟨⟨by omega, by omega⟩, fun v6 e6 => a_ticks (hq e5) (hq e6) ⟨⟨by omega, by omega⟩, fun v12 e12 => ⟨⟨by omega, by omega⟩, fun v13 e13 => ?_⟩⟩⟩⟩
      rw [e12, ← e5, e13, ← e6]
      exact m_ticks (hq e5) (hq e6) (fun g => fin ztick_q (go ⟨hW, hH, hT, hP⟩))
    · exact a_shortestPeriod hG.2.1 hG.2.2.1 (m_shortestPeriod hG (fin (zshort_q hG) (go ⟨hW, hH, hT, hP⟩)))
