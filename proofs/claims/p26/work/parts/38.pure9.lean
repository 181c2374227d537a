theorem zsum_mod {f : Int → Int} {per s : Int} : ∀ n : Nat, zsum f per (s % per) n = zsum f per s n
  | 0 => rfl
  | n + 1 => by rw [zsum, zsum, zsum_mod n, Int.emod_add_emod]
theorem zmean_mod {sz : Int} {ph od se : Nat → Int} {s len : Int} : zmean sz ph od se (s % se 0) len = zmean sz ph od se s len := by
  funext spot
  unfold zmean
  rw [zsum_mod]
theorem zsee_b (m : Int → Int) (b : Int) (k : Nat) : zsee m b k = 0 ∨ zsee m b k = 1 := by
  unfold zsee
  split
  · exact Or.inr rfl
  · exact Or.inl rfl
theorem zne_b (a b : Int) : zne a b = 0 ∨ zne a b = 1 := by
  unfold zne
  split
  · exact Or.inl rfl
  · exact Or.inr rfl
theorem zp01 {x : Int64} {k : Nat} {v : Int} (e : v = zb x k) : v = 0 ∨ v = 1 := by
  rw [e]
  exact zb_01 x k
/-- wrong for the eye (0) or for the shutter (not 0) -/
def zwr (sz : Int) (ph od : Nat → Int) (pi : Nat → Int64) (se : Nat → Int) (by' : Int) (k : Nat) : Int := if by' = 0 then zne (zsee (zmean sz ph od se 0 (se 0)) (se 2) k) (zb (pi 0) k) else zne (zsee (zmean sz ph od se (se 3) (se 4)) (se 5) k) (zb (pi 1) k)
theorem zwr_b (sz : Int) (ph od : Nat → Int) (pi : Nat → Int64) (se : Nat → Int) (b : Int) (k : Nat) : zwr sz ph od pi se b k = 0 ∨ zwr sz ph od pi se b k = 1 := by
  unfold zwr
  split <;> exact zne_b _ _
/-- seen by the eye (0) or by the shutter (not 0) -/
def zsb (sz : Int) (ph od se : Nat → Int) (b : Int) (k : Nat) : Int := if b = 0 then zsee (zmean sz ph od se 0 (se 0)) (se 2) k else zsee (zmean sz ph od se (se 3) (se 4)) (se 5) k
theorem zflick_dark {ph : Nat → Int} {per spot : Int} (hp : 8 ≤ per) : zmx (zshine ph per (-9) spot) per.toNat - zmn (zshine ph per (-9) spot) per.toNat = 0 := by
  have hz : ∀ t : Int, zshine ph per (-9) spot t = 0 := fun t => by
    unfold zshine
    rw [if_pos rfl]
  have h1 : ∀ n : Nat, zmx (zshine ph per (-9) spot) n = 0 := by
    intro n
    induction n with
    | zero => rfl
    | succ n ih =>
      rw [zmx, ih, hz]
      rfl
  have h2 : ∀ n : Nat, zmn (zshine ph per (-9) spot) (n + 1) = 0 := by
    intro n
    induction n with
    | zero =>
      rw [zmn, zmn, hz]
      rfl
    | succ n ih =>
      rw [zmn, ih, hz]
      rfl
  rw [h1, show per.toNat = (per.toNat - 1) + 1 by omega, h2]
  rfl
