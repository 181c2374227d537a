/-! THE START: fresh objects agree; whole_start -/
theorem z0_hi : ∀ k : Nat, 6 ≤ k → (qU (qU (qU (qU (qU (qU (fun _ => 0) (0 : Int).toNat (60 : Int)) (1 : Int).toNat (1 : Int)) (2 : Int).toNat (20 : Int)) (3 : Int).toNat (0 : Int)) (4 : Int).toNat (4 : Int)) (5 : Int).toNat (60 : Int)) k = (0 : Int) := by
  intro k hk
  rw [qU_a, if_neg (show ¬ k = (5 : Int).toNat by omega), qU_a, if_neg (show ¬ k = (4 : Int).toNat by omega), qU_a, if_neg (show ¬ k = (3 : Int).toNat by omega), qU_a, if_neg (show ¬ k = (2 : Int).toNat by omega), qU_a, if_neg (show ¬ k = (1 : Int).toNat by omega), qU_a, if_neg (show ¬ k = (0 : Int).toNat by omega)]
theorem z0_G : zG (qU (qU (qU (qU (qU (qU (fun _ => 0) (0 : Int).toNat (60 : Int)) (1 : Int).toNat (1 : Int)) (2 : Int).toNat (20 : Int)) (3 : Int).toNat (0 : Int)) (4 : Int).toNat (4 : Int)) (5 : Int).toNat (60 : Int)) 0 (fun _ => 0) (fun _ => 0) (fun _ => 0) qSe0 := by
  refine ⟨⟨fun k hk => rfl, z0_hi 6 (by omega), fun k hk => z0_hi _ (by omega), fun k hk => z0_hi _ (by omega), fun k hk => ?_, fun k hk => ?_⟩, ⟨by decide, fun k hk => absurd hk (by omega), fun i j hi _ _ => absurd hi (by omega)⟩, ?_, fun k hk => show (0 : Int) ≤ 0 ∧ (0 : Int) ≤ 3 by decide⟩
  · rw [z0_hi _ (by omega)]
    exact (zb_zero k).symm
  · rw [z0_hi _ (by omega)]
    exact (zb_zero k).symm
  · exact ⟨⟨by decide, by decide⟩, ⟨by decide, by decide⟩, ⟨by decide, by decide⟩, ⟨by decide, by decide⟩, ⟨by decide, by decide⟩, ⟨by decide, by decide⟩⟩
theorem z0_P : zPl 0 0 0 (fun _ => 0) := by
  refine ⟨0, rfl, by decide, ?_, rfl, fun p hp => absurd hp (by omega)⟩
  exact ((zcnt_z (f := zb 0) 64 (fun k _ => zb_01 0 k)).2 (fun k _ => zb_zero k)).symm
theorem whole_pure (L : Nat) (xs : Nat → Int32) (ha : Nat → Nat → Nat) (hL : L ≤ 2048) : wp_L_law L xs 0 0 0 0 0 0 0 ((qU (qU (qU (qU (qU (qU (fun _ => 0) (0 : Int).toNat (60 : Int)) (1 : Int).toNat (1 : Int)) (2 : Int).toNat (20 : Int)) (3 : Int).toNat (0 : Int)) (4 : Int).toNat (4 : Int)) (5 : Int).toNat (60 : Int))) (fun _ => 0) (fun _ => 0) (fun _ => 0) (fun _ => 0) (fun _ => 0) (fun _ => 0) 0 0 0 (fun _ => 0) (fun _ => 0) 0 0 0 (fun _ => 0) (fun _ => 0) (fun _ => 0) (fun _ => 0) (fun _ => 0) 0 (fun _ => 0) (fun _ => 0) (fun _ => 0) qSe0 0 (fun _ => 0) (fun _ => 0) (fun _ => 0) qSe0 0 (fun _ => 0) (fun _ => 0) (fun _ => 0) qSe0 ha (fun _ => qSt0) := by
  unfold wp_L_law
  refine ⟨L + 1, L_law_ok L xs hL L 0 (by omega) (by omega) ⟨⟨z0_G, ⟨z0_hi 211 (by omega), Or.inl rfl⟩, ⟨z0_hi 423 (by omega), Or.inl rfl⟩, fun z => absurd z (show ¬ (0 : Int) = 1 by decide), fun z => absurd z (show ¬ (0 : Int) = 1 by decide)⟩, ⟨rfl, by decide, fun i hi => absurd hi (by omega)⟩, ⟨rfl, zTx_0 _, zTm_0 _ _⟩, z0_P⟩⟩
theorem whole_start (l : Launch) (_ : l.flags = flags0) {p : Program} {e : Env} {s : State} {m : MethodId} {below : List Frame} {meth : Method} {c : Code} {b L : Nat} {xs : Nat → Int32} (hL : L ≤ 2048) (C0 : lw_At p s m meth c b L xs) : W p l e room_1 s m #[Value.ref b] below meth c s.heap [] 0 0 (lw_Z below #[Value.ref b] s) (entryFrame m ([Value.ref b] : List Value).toArray 4) := whole_start_open (fun L xs ha hL => whole_pure L xs ha hL) l hL C0
