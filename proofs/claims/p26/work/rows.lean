section
-- ===== PART A: goes FIRST, ahead of the names: the tables' words, and 'selects' of the private methods out of them =====
/-- a private method of a class that the tables say can be made, by its rows of tables_1 -/
def lw_okq (q : MethodName × Nat) : Prop := (q.1.cls ≠ "java/lang/invoke/MethodHandle" ∧ q.1.cls ≠ "java/lang/invoke/VarHandle") ∧ Cond.instantiable q.1.cls q.2 ∈ tables_1 ∧ Cond.privateMethod q.1 ∈ tables_1 ∧ Cond.instanceMethod q.1 ∈ tables_1
theorem lw_p0 : lw_okq (⟨"PhosphorHush", "prepare", "()V"⟩, 6) := ⟨⟨by decide +kernel, by decide +kernel⟩, List.mem_of_getElem? (i := 11) (by decide +kernel), List.mem_of_getElem? (i := 137) (by decide +kernel), List.mem_of_getElem? (i := 138) (by decide +kernel)⟩
theorem lw_p1 : lw_okq (⟨"PhosphorHush", "finish", "(I)I"⟩, 6) := ⟨⟨by decide +kernel, by decide +kernel⟩, List.mem_of_getElem? (i := 11) (by decide +kernel), List.mem_of_getElem? (i := 160) (by decide +kernel), List.mem_of_getElem? (i := 161) (by decide +kernel)⟩
theorem lw_p2 : lw_okq (⟨"PhosphorHush", "dropOldest", "()V"⟩, 6) := ⟨⟨by decide +kernel, by decide +kernel⟩, List.mem_of_getElem? (i := 11) (by decide +kernel), List.mem_of_getElem? (i := 164) (by decide +kernel), List.mem_of_getElem? (i := 165) (by decide +kernel)⟩
theorem lw_p3 : lw_okq (⟨"PhosphorHush$Screen", "swap", "(II)V"⟩, 5) := ⟨⟨by decide +kernel, by decide +kernel⟩, List.mem_of_getElem? (i := 25) (by decide +kernel), List.mem_of_getElem? (i := 191) (by decide +kernel), List.mem_of_getElem? (i := 192) (by decide +kernel)⟩
theorem lw_p4 : lw_okq (⟨"PhosphorHush$Screen", "seen", "(III)J"⟩, 5) := ⟨⟨by decide +kernel, by decide +kernel⟩, List.mem_of_getElem? (i := 25) (by decide +kernel), List.mem_of_getElem? (i := 249) (by decide +kernel), List.mem_of_getElem? (i := 250) (by decide +kernel)⟩
theorem lw_p5 : lw_okq (⟨"PhosphorHush$Screen", "sumOver", "(III)I"⟩, 5) := ⟨⟨by decide +kernel, by decide +kernel⟩, List.mem_of_getElem? (i := 25) (by decide +kernel), List.mem_of_getElem? (i := 253) (by decide +kernel), List.mem_of_getElem? (i := 254) (by decide +kernel)⟩
theorem lw_p6 : lw_okq (⟨"PhosphorHush$Screen", "next", "(I)I"⟩, 5) := ⟨⟨by decide +kernel, by decide +kernel⟩, List.mem_of_getElem? (i := 25) (by decide +kernel), List.mem_of_getElem? (i := 271) (by decide +kernel), List.mem_of_getElem? (i := 272) (by decide +kernel)⟩
theorem lw_p7 : lw_okq (⟨"PhosphorHush$Screen", "startInFrame", "()I"⟩, 5) := ⟨⟨by decide +kernel, by decide +kernel⟩, List.mem_of_getElem? (i := 25) (by decide +kernel), List.mem_of_getElem? (i := 282) (by decide +kernel), List.mem_of_getElem? (i := 283) (by decide +kernel)⟩
theorem lw_p8 : lw_okq (⟨"PhosphorHush", "settingCount", "(I)I"⟩, 6) := ⟨⟨by decide +kernel, by decide +kernel⟩, List.mem_of_getElem? (i := 11) (by decide +kernel), List.mem_of_getElem? (i := 303) (by decide +kernel), List.mem_of_getElem? (i := 304) (by decide +kernel)⟩
theorem lw_p9 : lw_okq (⟨"PhosphorHush$Screen", "countSeen", "(I[I)V"⟩, 5) := ⟨⟨by decide +kernel, by decide +kernel⟩, List.mem_of_getElem? (i := 25) (by decide +kernel), List.mem_of_getElem? (i := 322) (by decide +kernel), List.mem_of_getElem? (i := 323) (by decide +kernel)⟩
theorem lw_p10 : lw_okq (⟨"PhosphorHush$Travel", "listSpots", "()V"⟩, 6) := ⟨⟨by decide +kernel, by decide +kernel⟩, List.mem_of_getElem? (i := 88) (by decide +kernel), List.mem_of_getElem? (i := 341) (by decide +kernel), List.mem_of_getElem? (i := 342) (by decide +kernel)⟩
theorem lw_p11 : lw_okq (⟨"PhosphorHush$Travel", "fillRest", "()V"⟩, 6) := ⟨⟨by decide +kernel, by decide +kernel⟩, List.mem_of_getElem? (i := 88) (by decide +kernel), List.mem_of_getElem? (i := 346) (by decide +kernel), List.mem_of_getElem? (i := 347) (by decide +kernel)⟩
theorem lw_p12 : lw_okq (⟨"PhosphorHush$Travel", "leastFrom", "(II)I"⟩, 6) := ⟨⟨by decide +kernel, by decide +kernel⟩, List.mem_of_getElem? (i := 88) (by decide +kernel), List.mem_of_getElem? (i := 350) (by decide +kernel), List.mem_of_getElem? (i := 351) (by decide +kernel)⟩
theorem lw_p13 : lw_okq (⟨"PhosphorHush$Travel", "bestStep", "(II)I"⟩, 6) := ⟨⟨by decide +kernel, by decide +kernel⟩, List.mem_of_getElem? (i := 88) (by decide +kernel), List.mem_of_getElem? (i := 354) (by decide +kernel), List.mem_of_getElem? (i := 355) (by decide +kernel)⟩
theorem lw_p14 : lw_okq (⟨"PhosphorHush$Travel", "travelBy", "(III)I"⟩, 6) := ⟨⟨by decide +kernel, by decide +kernel⟩, List.mem_of_getElem? (i := 88) (by decide +kernel), List.mem_of_getElem? (i := 358) (by decide +kernel), List.mem_of_getElem? (i := 359) (by decide +kernel)⟩
theorem lw_p15 : lw_okq (⟨"PhosphorHush$Travel", "follow", "()V"⟩, 6) := ⟨⟨by decide +kernel, by decide +kernel⟩, List.mem_of_getElem? (i := 88) (by decide +kernel), List.mem_of_getElem? (i := 363) (by decide +kernel), List.mem_of_getElem? (i := 364) (by decide +kernel)⟩
def lw_privs_1 : List (MethodName × Nat) := [(⟨"PhosphorHush", "prepare", "()V"⟩, 6), (⟨"PhosphorHush", "finish", "(I)I"⟩, 6), (⟨"PhosphorHush", "dropOldest", "()V"⟩, 6), (⟨"PhosphorHush$Screen", "swap", "(II)V"⟩, 5), (⟨"PhosphorHush$Screen", "seen", "(III)J"⟩, 5), (⟨"PhosphorHush$Screen", "sumOver", "(III)I"⟩, 5), (⟨"PhosphorHush$Screen", "next", "(I)I"⟩, 5), (⟨"PhosphorHush$Screen", "startInFrame", "()I"⟩, 5), (⟨"PhosphorHush", "settingCount", "(I)I"⟩, 6), (⟨"PhosphorHush$Screen", "countSeen", "(I[I)V"⟩, 5), (⟨"PhosphorHush$Travel", "listSpots", "()V"⟩, 6), (⟨"PhosphorHush$Travel", "fillRest", "()V"⟩, 6), (⟨"PhosphorHush$Travel", "leastFrom", "(II)I"⟩, 6), (⟨"PhosphorHush$Travel", "bestStep", "(II)I"⟩, 6), (⟨"PhosphorHush$Travel", "travelBy", "(III)I"⟩, 6), (⟨"PhosphorHush$Travel", "follow", "()V"⟩, 6)]
theorem lw_r1 : ∀ q ∈ lw_privs_1, lw_okq q := List.forall_mem_cons.mpr ⟨lw_p0, List.forall_mem_cons.mpr ⟨lw_p1, List.forall_mem_cons.mpr ⟨lw_p2, List.forall_mem_cons.mpr ⟨lw_p3, List.forall_mem_cons.mpr ⟨lw_p4, List.forall_mem_cons.mpr ⟨lw_p5, List.forall_mem_cons.mpr ⟨lw_p6, List.forall_mem_cons.mpr ⟨lw_p7, List.forall_mem_cons.mpr ⟨lw_p8, List.forall_mem_cons.mpr ⟨lw_p9, List.forall_mem_cons.mpr ⟨lw_p10, List.forall_mem_cons.mpr ⟨lw_p11, List.forall_mem_cons.mpr ⟨lw_p12, List.forall_mem_cons.mpr ⟨lw_p13, List.forall_mem_cons.mpr ⟨lw_p14, List.forall_mem_cons.mpr ⟨lw_p15, fun _ h => absurd h List.not_mem_nil⟩⟩⟩⟩⟩⟩⟩⟩⟩⟩⟩⟩⟩⟩⟩⟩
theorem lw_p16 : lw_okq (⟨"PhosphorHush$Screen", "rank", "(III)I"⟩, 5) := ⟨⟨by decide +kernel, by decide +kernel⟩, List.mem_of_getElem? (i := 25) (by decide +kernel), List.mem_of_getElem? (i := 458) (by decide +kernel), List.mem_of_getElem? (i := 459) (by decide +kernel)⟩
def lw_privs_2 : List (MethodName × Nat) := [(⟨"PhosphorHush$Screen", "rank", "(III)I"⟩, 5)]
theorem lw_r2 : ∀ q ∈ lw_privs_2, lw_okq q := List.forall_mem_cons.mpr ⟨lw_p16, fun _ h => absurd h List.not_mem_nil⟩
def lw_privs : List (MethodName × Nat) := lw_privs_1 ++ (lw_privs_2)
def lw_tbl : List Cond := k2_sels lw_privs ++ tables_1
theorem lw_privs_ok : ∀ q ∈ lw_privs, lw_okq q := by
  show ∀ q ∈ lw_privs_1 ++ (lw_privs_2), lw_okq q
  exact List.forall_mem_append.mpr ⟨lw_r1, lw_r2⟩
-- ===== end of PART A; then your names; then what follows =====
end
section
/-! ===== BEGIN words of one list among another's, by their places ===== -/
theorem goodIn_r {big : List Cond} (ws : List Cond) (ps : List Nat) (hp : ws = ps.filterMap (fun i => big[i]?)) (h : ws.all goodWord = true) : GoodIn big ws := by
  intro w hw
  have h1 := List.all_eq_true.mp h w hw
  rw [hp] at hw
  obtain ⟨i, -, hi⟩ := List.mem_filterMap.mp hw
  have hm : w ∈ big := by first | exact List.mem_of_getElem? hi | exact List.getElem?_mem hi
  exact ⟨hm, good_of_word h1⟩
theorem goodIn_app {big a b : List Cond} (ha : GoodIn big a) (hb : GoodIn big b) : GoodIn big (a ++ b) := fun w h => (List.mem_append.mp h).elim (ha w) (hb w)
theorem goodIn_ca {big a b : List Cond} {c : Cond} (ha : GoodIn big (c :: a)) (hb : GoodIn big b) : GoodIn big (c :: (a ++ b)) := fun w h => (List.mem_cons.mp h).elim (fun e => ha w (List.mem_cons.mpr (Or.inl e))) (fun h => (List.mem_append.mp h).elim (fun h => ha w (List.mem_cons.mpr (Or.inr h))) (hb w))
theorem goodIn_sub {big ws : List Cond} (hm : ∀ w ∈ ws, w ∈ big) (h : ws.all goodWord = true) : GoodIn big ws := fun w hw => ⟨hm w hw, good_of_word (List.all_eq_true.mp h w hw)⟩
/-! ===== END ===== -/

/-! ===== BEGIN printed: names, fields, word lists, decode rows ===== -/
def RX0 : String := "PhosphorHush$Program"
def TX0 : u_T := fun k => match k with
  | 0 => ("PhosphorHush$Program", "text", "[C", true)
  | 1 => ("PhosphorHush$Program", "length", "I", false)
  | 2 => ("PhosphorHush$Program", "place", "I", false)
  | _ => ("PhosphorHush$Program", "numbers", "[I", true)
def tyX0 : Nat → FieldType := fun k => match k with
  | 0 => .array .char
  | 1 => .int
  | 2 => .int
  | _ => .array .int
abbrev wsX00 : List Cond := u_ws RX0 TX0 4
theorem nmX0 : ∀ a, a < 4 → ∀ b, b < 4 → a ≠ b → (TX0 a).2.1 ≠ (TX0 b).2.1 := by decide +kernel
theorem tyX0_ok : ∀ k, k < 4 → parseFieldDescriptor (TX0 k).2.2.1 = some (tyX0 k) := by decide +kernel
abbrev cX0_init : ByteArray := prog_2_method_1_code
def yX0_init : MethodName := ⟨RX0, "<init>", "()V"⟩
abbrev cX0_size : ByteArray := prog_2_method_2_code
def yX0_size : MethodName := ⟨RX0, "size", "()I"⟩
def RX1 : String := "PhosphorHush$Screen"
def TX1 : u_T := fun k => match k with
  | 0 => ("PhosphorHush$Screen", "phosphors", "[I", true)
  | 1 => ("PhosphorHush$Screen", "order", "[I", true)
  | 2 => ("PhosphorHush$Screen", "size", "I", false)
  | 3 => ("PhosphorHush$Screen", "pictures", "[J", true)
  | _ => ("PhosphorHush$Screen", "settings", "[I", true)
def tyX1 : Nat → FieldType := fun k => match k with
  | 0 => .array .int
  | 1 => .array .int
  | 2 => .int
  | 3 => .array .long
  | _ => .array .int
abbrev wsX10 : List Cond := u_ws RX1 TX1 5
theorem nmX1 : ∀ a, a < 5 → ∀ b, b < 5 → a ≠ b → (TX1 a).2.1 ≠ (TX1 b).2.1 := by decide +kernel
theorem tyX1_ok : ∀ k, k < 5 → parseFieldDescriptor (TX1 k).2.2.1 = some (tyX1 k) := by decide +kernel
abbrev cX1_init : ByteArray := prog_3_method_1_code
def yX1_init : MethodName := ⟨RX1, "<init>", "()V"⟩
abbrev cX1_copyFrom : ByteArray := prog_3_method_2_code
def yX1_copyFrom : MethodName := ⟨RX1, "copyFrom", "(LPhosphorHush$Screen;)V"⟩
abbrev cX1_putSetting : ByteArray := prog_3_method_3_code
def yX1_putSetting : MethodName := ⟨RX1, "putSetting", "(II)I"⟩
abbrev cX1_putPhosphor : ByteArray := prog_3_method_4_code
def yX1_putPhosphor : MethodName := ⟨RX1, "putPhosphor", "(II)I"⟩
abbrev cX1_addSpot : ByteArray := prog_3_method_5_code
def yX1_addSpot : MethodName := ⟨RX1, "addSpot", "(I)I"⟩
abbrev cX1_removeSpot : ByteArray := prog_3_method_6_code
def yX1_removeSpot : MethodName := ⟨RX1, "removeSpot", "(I)I"⟩
abbrev cX1_swapPositions : ByteArray := prog_3_method_7_code
def yX1_swapPositions : MethodName := ⟨RX1, "swapPositions", "(II)I"⟩
abbrev cX1_swap : ByteArray := prog_3_method_8_code
def yX1_swap : MethodName := ⟨RX1, "swap", "(II)V"⟩
abbrev cX1_arrange : ByteArray := prog_3_method_9_code
def yX1_arrange : MethodName := ⟨RX1, "arrange", "(I)I"⟩
abbrev cX1_rank : ByteArray := prog_3_method_10_code
def yX1_rank : MethodName := ⟨RX1, "rank", "(III)I"⟩
abbrev cX1_paint : ByteArray := prog_3_method_11_code
def yX1_paint : MethodName := ⟨RX1, "paint", "(III)I"⟩
abbrev cX1_positionOf : ByteArray := prog_3_method_12_code
def yX1_positionOf : MethodName := ⟨RX1, "positionOf", "(I)I"⟩
abbrev cX1_spotsOfOrder : ByteArray := prog_3_method_13_code
def yX1_spotsOfOrder : MethodName := ⟨RX1, "spotsOfOrder", "()J"⟩
abbrev cX1_sumOfWays : ByteArray := prog_3_method_14_code
def yX1_sumOfWays : MethodName := ⟨RX1, "sumOfWays", "()I"⟩
abbrev cX1_arrival : ByteArray := prog_3_method_15_code
def yX1_arrival : MethodName := ⟨RX1, "arrival", "(I)I"⟩
abbrev cX1_litSize : ByteArray := prog_3_method_16_code
def yX1_litSize : MethodName := ⟨RX1, "litSize", "()I"⟩
abbrev cX1_litTick : ByteArray := prog_3_method_17_code
def yX1_litTick : MethodName := ⟨RX1, "litTick", "(I)I"⟩
abbrev cX1_shine : ByteArray := prog_3_method_18_code
def yX1_shine : MethodName := ⟨RX1, "shine", "(III)I"⟩
abbrev cX1_sumOver : ByteArray := prog_3_method_19_code
def yX1_sumOver : MethodName := ⟨RX1, "sumOver", "(III)I"⟩
abbrev cX1_next : ByteArray := prog_3_method_20_code
def yX1_next : MethodName := ⟨RX1, "next", "(I)I"⟩
abbrev cX1_startInFrame : ByteArray := prog_3_method_21_code
def yX1_startInFrame : MethodName := ⟨RX1, "startInFrame", "()I"⟩
abbrev cX1_mean : ByteArray := prog_3_method_22_code
def yX1_mean : MethodName := ⟨RX1, "mean", "(II)I"⟩
abbrev cX1_eyeMean : ByteArray := prog_3_method_23_code
def yX1_eyeMean : MethodName := ⟨RX1, "eyeMean", "(I)I"⟩
abbrev cX1_shutterMean : ByteArray := prog_3_method_24_code
def yX1_shutterMean : MethodName := ⟨RX1, "shutterMean", "(II)I"⟩
abbrev cX1_flicker : ByteArray := prog_3_method_25_code
def yX1_flicker : MethodName := ⟨RX1, "flicker", "(I)I"⟩
abbrev cX1_seenByEye : ByteArray := prog_3_method_26_code
def yX1_seenByEye : MethodName := ⟨RX1, "seenByEye", "()J"⟩
abbrev cX1_seenByShutter : ByteArray := prog_3_method_27_code
def yX1_seenByShutter : MethodName := ⟨RX1, "seenByShutter", "(I)J"⟩
abbrev cX1_seen : ByteArray := prog_3_method_28_code
def yX1_seen : MethodName := ⟨RX1, "seen", "(III)J"⟩
abbrev cX1_wrong : ByteArray := prog_3_method_29_code
def yX1_wrong : MethodName := ⟨RX1, "wrong", "(IJ)J"⟩
abbrev cX1_countWrong : ByteArray := prog_3_method_30_code
def yX1_countWrong : MethodName := ⟨RX1, "countWrong", "([I)V"⟩
abbrev cX1_countSeen : ByteArray := prog_3_method_31_code
def yX1_countSeen : MethodName := ⟨RX1, "countSeen", "(I[I)V"⟩
def RX2 : String := "PhosphorHush$State"
def TX2 : u_T := fun k => match k with
  | 0 => ("PhosphorHush$State", "shown", "LPhosphorHush$Screen;", true)
  | 1 => ("PhosphorHush$State", "slots", "[LPhosphorHush$Screen;", true)
  | _ => ("PhosphorHush$State", "taken", "[Z", true)
def tyX2 : Nat → FieldType := fun k => match k with
  | 0 => .object "PhosphorHush$Screen"
  | 1 => .array (.object "PhosphorHush$Screen")
  | _ => .array .boolean
abbrev wsX20 : List Cond := u_ws RX2 TX2 3
theorem nmX2 : ∀ a, a < 3 → ∀ b, b < 3 → a ≠ b → (TX2 a).2.1 ≠ (TX2 b).2.1 := by decide +kernel
theorem tyX2_ok : ∀ k, k < 3 → parseFieldDescriptor (TX2 k).2.2.1 = some (tyX2 k) := by decide +kernel
abbrev cX2_init : ByteArray := prog_4_method_1_code
def yX2_init : MethodName := ⟨RX2, "<init>", "()V"⟩
abbrev cX2_copyFrom : ByteArray := prog_4_method_2_code
def yX2_copyFrom : MethodName := ⟨RX2, "copyFrom", "(LPhosphorHush$State;)V"⟩
abbrev cX2_isSlot : ByteArray := prog_4_method_3_code
def yX2_isSlot : MethodName := ⟨RX2, "isSlot", "(I)Z"⟩
abbrev cX2_keepSnapshot : ByteArray := prog_4_method_4_code
def yX2_keepSnapshot : MethodName := ⟨RX2, "keepSnapshot", "(I)I"⟩
abbrev cX2_showSnapshot : ByteArray := prog_4_method_5_code
def yX2_showSnapshot : MethodName := ⟨RX2, "showSnapshot", "(I)I"⟩
abbrev cX2_snapshots : ByteArray := prog_4_method_6_code
def yX2_snapshots : MethodName := ⟨RX2, "snapshots", "()I"⟩
def RX3 : String := "PhosphorHush$Travel"
def TX3 : u_T := fun k => match k with
  | 0 => ("PhosphorHush$Travel", "planned", "J", false)
  | 1 => ("PhosphorHush$Travel", "spots", "[I", true)
  | 2 => ("PhosphorHush$Travel", "size", "I", false)
  | 3 => ("PhosphorHush$Travel", "rest", "[I", true)
  | 4 => ("PhosphorHush$Travel", "stops", "[I", true)
  | _ => ("PhosphorHush$Travel", "sum", "I", false)
def tyX3 : Nat → FieldType := fun k => match k with
  | 0 => .long
  | 1 => .array .int
  | 2 => .int
  | 3 => .array .int
  | 4 => .array .int
  | _ => .int
abbrev wsX30 : List Cond := u_ws RX3 TX3 6
theorem nmX3 : ∀ a, a < 6 → ∀ b, b < 6 → a ≠ b → (TX3 a).2.1 ≠ (TX3 b).2.1 := by decide +kernel
theorem tyX3_ok : ∀ k, k < 6 → parseFieldDescriptor (TX3 k).2.2.1 = some (tyX3 k) := by decide +kernel
abbrev cX3_init : ByteArray := prog_5_method_1_code
def yX3_init : MethodName := ⟨RX3, "<init>", "()V"⟩
abbrev cX3_plan : ByteArray := prog_5_method_2_code
def yX3_plan : MethodName := ⟨RX3, "plan", "(J)V"⟩
abbrev cX3_sumOfWays : ByteArray := prog_5_method_3_code
def yX3_sumOfWays : MethodName := ⟨RX3, "sumOfWays", "()I"⟩
abbrev cX3_stop : ByteArray := prog_5_method_4_code
def yX3_stop : MethodName := ⟨RX3, "stop", "(I)I"⟩
abbrev cX3_listSpots : ByteArray := prog_5_method_5_code
def yX3_listSpots : MethodName := ⟨RX3, "listSpots", "()V"⟩
abbrev cX3_fillRest : ByteArray := prog_5_method_6_code
def yX3_fillRest : MethodName := ⟨RX3, "fillRest", "()V"⟩
abbrev cX3_leastFrom : ByteArray := prog_5_method_7_code
def yX3_leastFrom : MethodName := ⟨RX3, "leastFrom", "(II)I"⟩
abbrev cX3_travelBy : ByteArray := prog_5_method_8_code
def yX3_travelBy : MethodName := ⟨RX3, "travelBy", "(III)I"⟩
abbrev cX3_bestStep : ByteArray := prog_5_method_9_code
def yX3_bestStep : MethodName := ⟨RX3, "bestStep", "(II)I"⟩
abbrev cX3_follow : ByteArray := prog_5_method_10_code
def yX3_follow : MethodName := ⟨RX3, "follow", "()V"⟩
def RX4 : String := "PhosphorHush"
def TX4 : u_T := fun k => match k with
  | 0 => ("PhosphorHush", "now", "LPhosphorHush$State;", true)
  | 1 => ("PhosphorHush", "history", "[LPhosphorHush$State;", true)
  | 2 => ("PhosphorHush", "kept", "I", false)
  | 3 => ("PhosphorHush", "program", "LPhosphorHush$Program;", true)
  | 4 => ("PhosphorHush", "travel", "LPhosphorHush$Travel;", true)
  | _ => ("PhosphorHush", "wrongAt", "[I", true)
def tyX4 : Nat → FieldType := fun k => match k with
  | 0 => .object "PhosphorHush$State"
  | 1 => .array (.object "PhosphorHush$State")
  | 2 => .int
  | 3 => .object "PhosphorHush$Program"
  | 4 => .object "PhosphorHush$Travel"
  | _ => .array .int
abbrev wsX40 : List Cond := u_ws RX4 TX4 6
theorem nmX4 : ∀ a, a < 6 → ∀ b, b < 6 → a ≠ b → (TX4 a).2.1 ≠ (TX4 b).2.1 := by decide +kernel
theorem tyX4_ok : ∀ k, k < 6 → parseFieldDescriptor (TX4 k).2.2.1 = some (tyX4 k) := by decide +kernel
abbrev cX4_init : ByteArray := prog_1_method_1_code
def yX4_init : MethodName := ⟨RX4, "<init>", "()V"⟩
abbrev cX4_set : ByteArray := prog_1_method_2_code
def yX4_set : MethodName := ⟨RX4, "set", "(II)I"⟩
abbrev cX4_setPhosphor : ByteArray := prog_1_method_3_code
def yX4_setPhosphor : MethodName := ⟨RX4, "setPhosphor", "(II)I"⟩
abbrev cX4_light : ByteArray := prog_1_method_4_code
def yX4_light : MethodName := ⟨RX4, "light", "(I)I"⟩
abbrev cX4_darken : ByteArray := prog_1_method_5_code
def yX4_darken : MethodName := ⟨RX4, "darken", "(I)I"⟩
abbrev cX4_exchange : ByteArray := prog_1_method_6_code
def yX4_exchange : MethodName := ⟨RX4, "exchange", "(II)I"⟩
abbrev cX4_sort : ByteArray := prog_1_method_7_code
def yX4_sort : MethodName := ⟨RX4, "sort", "(I)I"⟩
abbrev cX4_draw : ByteArray := prog_1_method_8_code
def yX4_draw : MethodName := ⟨RX4, "draw", "(III)I"⟩
abbrev cX4_take : ByteArray := prog_1_method_9_code
def yX4_take : MethodName := ⟨RX4, "take", "(I)I"⟩
abbrev cX4_restore : ByteArray := prog_1_method_10_code
def yX4_restore : MethodName := ⟨RX4, "restore", "(I)I"⟩
abbrev cX4_undo : ByteArray := prog_1_method_11_code
def yX4_undo : MethodName := ⟨RX4, "undo", "()I"⟩
abbrev cX4_count : ByteArray := prog_1_method_15_code
def yX4_count : MethodName := ⟨RX4, "count", "(I)I"⟩
abbrev cX4_spot : ByteArray := prog_1_method_16_code
def yX4_spot : MethodName := ⟨RX4, "spot", "(II)I"⟩
abbrev cX4_at : ByteArray := prog_1_method_17_code
def yX4_at : MethodName := ⟨RX4, "at", "(I)I"⟩
abbrev cX4_brightness : ByteArray := prog_1_method_18_code
def yX4_brightness : MethodName := ⟨RX4, "brightness", "(II)I"⟩
abbrev cX4_firstWrong : ByteArray := prog_1_method_19_code
def yX4_firstWrong : MethodName := ⟨RX4, "firstWrong", "(I)I"⟩
abbrev cX4_bestStart : ByteArray := prog_1_method_20_code
def yX4_bestStart : MethodName := ⟨RX4, "bestStart", "(I)I"⟩
abbrev cX4_leastTravel : ByteArray := prog_1_method_21_code
def yX4_leastTravel : MethodName := ⟨RX4, "leastTravel", "(I)I"⟩
abbrev cX4_longest : ByteArray := prog_1_method_22_code
def yX4_longest : MethodName := ⟨RX4, "longest", "()I"⟩
abbrev cX4_ticks : ByteArray := prog_1_method_23_code
def yX4_ticks : MethodName := ⟨RX4, "ticks", "(II)I"⟩
abbrev cX4_shortestPeriod : ByteArray := prog_1_method_24_code
def yX4_shortestPeriod : MethodName := ⟨RX4, "shortestPeriod", "()I"⟩
abbrev cX4_prepare : ByteArray := prog_1_method_25_code
def yX4_prepare : MethodName := ⟨RX4, "prepare", "()V"⟩
abbrev cX4_finish : ByteArray := prog_1_method_26_code
def yX4_finish : MethodName := ⟨RX4, "finish", "(I)I"⟩
abbrev cX4_dropOldest : ByteArray := prog_1_method_27_code
def yX4_dropOldest : MethodName := ⟨RX4, "dropOldest", "()V"⟩
abbrev cX4_settingCount : ByteArray := prog_1_method_28_code
def yX4_settingCount : MethodName := ⟨RX4, "settingCount", "(I)I"⟩
abbrev cX4_isSpot : ByteArray := prog_1_method_29_code
def yX4_isSpot : MethodName := ⟨RX4, "isSpot", "(I)Z"⟩
abbrev cX4_isPhosphor : ByteArray := prog_1_method_30_code
def yX4_isPhosphor : MethodName := ⟨RX4, "isPhosphor", "(I)Z"⟩
abbrev cX4_way : ByteArray := prog_1_method_31_code
def yX4_way : MethodName := ⟨RX4, "way", "(II)I"⟩
abbrev cX4_bit : ByteArray := prog_1_method_32_code
def yX4_bit : MethodName := ⟨RX4, "bit", "(JI)I"⟩
abbrev cX4_firstOf : ByteArray := prog_1_method_33_code
def yX4_firstOf : MethodName := ⟨RX4, "firstOf", "(J)I"⟩
abbrev cX4_glow : ByteArray := prog_1_method_34_code
def yX4_glow : MethodName := ⟨RX4, "glow", "(II)I"⟩
abbrev cX4_ticksAbove : ByteArray := prog_1_method_35_code
def yX4_ticksAbove : MethodName := ⟨RX4, "ticksAbove", "(II)I"⟩
def RX5 : String := "PhosphorHushModel"
def TX5 : u_T := fun k => match k with
  | _ => ("", "", "", false)
def tyX5 : Nat → FieldType := fun k => match k with
  | _ => .int
abbrev wsX50 : List Cond := u_ws RX5 TX5 0
theorem nmX5 : ∀ a, a < 0 → ∀ b, b < 0 → a ≠ b → (TX5 a).2.1 ≠ (TX5 b).2.1 := by decide +kernel
theorem tyX5_ok : ∀ k, k < 0 → parseFieldDescriptor (TX5 k).2.2.1 = some (tyX5 k) := by decide +kernel
def RJ13 : String := "java/lang/Long"
def TJ13 : u_T := fun k => match k with
  | _ => ("", "", "", false)
def tyJ13 : Nat → FieldType := fun k => match k with
  | _ => .int
abbrev wsJ130 : List Cond := u_ws RJ13 TJ13 0
theorem nmJ13 : ∀ a, a < 0 → ∀ b, b < 0 → a ≠ b → (TJ13 a).2.1 ≠ (TJ13 b).2.1 := by decide +kernel
theorem tyJ13_ok : ∀ k, k < 0 → parseFieldDescriptor (TJ13 k).2.2.1 = some (tyJ13 k) := by decide +kernel
abbrev cJ13_bitCount_95d88 : ByteArray := prog_8_method_50_code
def yJ13_bitCount_95d88 : MethodName := ⟨RJ13, "bitCount", "(J)I"⟩
def RJ9 : String := "java/lang/Math"
def TJ9 : u_T := fun k => match k with
  | _ => ("", "", "", false)
def tyJ9 : Nat → FieldType := fun k => match k with
  | _ => .int
abbrev wsJ90 : List Cond := u_ws RJ9 TJ9 0
theorem nmJ9 : ∀ a, a < 0 → ∀ b, b < 0 → a ≠ b → (TJ9 a).2.1 ≠ (TJ9 b).2.1 := by decide +kernel
theorem tyJ9_ok : ∀ k, k < 0 → parseFieldDescriptor (TJ9 k).2.2.1 = some (tyJ9 k) := by decide +kernel
abbrev cJ9_abs_0f7a4 : ByteArray := prog_9_method_59_code
def yJ9_abs_0f7a4 : MethodName := ⟨RJ9, "abs", "(I)I"⟩
abbrev cJ9_max_7cf53 : ByteArray := prog_9_method_65_code
def yJ9_max_7cf53 : MethodName := ⟨RJ9, "max", "(II)I"⟩
abbrev cJ9_min_7cf53 : ByteArray := prog_9_method_69_code
def yJ9_min_7cf53 : MethodName := ⟨RJ9, "min", "(II)I"⟩
def RJ10 : String := "java/lang/System"
def TJ10 : u_T := fun k => match k with
  | _ => ("", "", "", false)
def tyJ10 : Nat → FieldType := fun k => match k with
  | _ => .int
abbrev wsJ100 : List Cond := u_ws RJ10 TJ10 0
theorem nmJ10 : ∀ a, a < 0 → ∀ b, b < 0 → a ≠ b → (TJ10 a).2.1 ≠ (TJ10 b).2.1 := by decide +kernel
theorem tyJ10_ok : ∀ k, k < 0 → parseFieldDescriptor (TJ10 k).2.2.1 = some (tyJ10 k) := by decide +kernel
def RJ7 : String := "java/util/Arrays"
def TJ7 : u_T := fun k => match k with
  | _ => ("", "", "", false)
def tyJ7 : Nat → FieldType := fun k => match k with
  | _ => .int
abbrev wsJ70 : List Cond := u_ws RJ7 TJ7 0
theorem nmJ7 : ∀ a, a < 0 → ∀ b, b < 0 → a ≠ b → (TJ7 a).2.1 ≠ (TJ7 b).2.1 := by decide +kernel
theorem tyJ7_ok : ∀ k, k < 0 → parseFieldDescriptor (TJ7 k).2.2.1 = some (tyJ7 k) := by decide +kernel
abbrev cJ7_fill_53178 : ByteArray := prog_11_method_103_code
def yJ7_fill_53178 : MethodName := ⟨RJ7, "fill", "([II)V"⟩
def RL : String := "PhosphorHushLaw"
abbrev cL_cell : ByteArray := method_2_code
def yL_cell : MethodName := ⟨RL, "cell", "([II)I"⟩
abbrev cL_low : ByteArray := method_3_code
def yL_low : MethodName := ⟨RL, "low", "(II)I"⟩
abbrev cL_digest : ByteArray := method_4_code
def yL_digest : MethodName := ⟨RL, "digest", "(LPhosphorHush;)J"⟩
abbrev cL_act : ByteArray := method_5_code
def yL_act : MethodName := ⟨RL, "act", "(LPhosphorHush;I)I"⟩
abbrev cL_isRow : ByteArray := method_6_code
def yL_isRow : MethodName := ⟨RL, "isRow", "(LPhosphorHush;)Z"⟩
abbrev cL_isSeen : ByteArray := method_7_code
def yL_isSeen : MethodName := ⟨RL, "isSeen", "(LPhosphorHush;)Z"⟩
abbrev cL_isMean : ByteArray := method_8_code
def yL_isMean : MethodName := ⟨RL, "isMean", "(LPhosphorHush;I)Z"⟩
abbrev cL_law : ByteArray := code
def yL_law : MethodName := ⟨RL, "law", "([I)Z"⟩
def wsX0_init : List Cond := .code yX0_init cX0_init 1 none :: ([.methodLink RX0 3 objectInit, .instanceMethod objectInit, .code objectInit ⟨#[0xb1]⟩ 1 none, .arrayClass .char, .fieldLink RX0 9 "PhosphorHush$Program" "text" "[C", .arrayClass .int, .fieldLink RX0 15 "PhosphorHush$Program" "numbers" "[I"] ++ wsX00)
def wsX0_size : List Cond := .code yX0_size cX0_size 1 (some .int) :: ([.fieldLink RX0 19 "PhosphorHush$Program" "length" "I"] ++ wsX00)
def wsX1_init : List Cond := .code yX1_init cX1_init 1 none :: ([.methodLink RX1 3 objectInit, .instanceMethod objectInit, .code objectInit ⟨#[0xb1]⟩ 1 none, .arrayClass .int, .fieldLink RX1 9 "PhosphorHush$Screen" "phosphors" "[I", .fieldLink RX1 15 "PhosphorHush$Screen" "order" "[I", .arrayClass .long, .fieldLink RX1 18 "PhosphorHush$Screen" "pictures" "[J", .fieldLink RX1 22 "PhosphorHush$Screen" "settings" "[I"] ++ wsX10)
def wsX1_copyFrom : List Cond := .code yX1_copyFrom cX1_copyFrom 2 none :: ([.fieldLink RX1 9 "PhosphorHush$Screen" "phosphors" "[I", .methodLink RX1 25 arraycopyName, .native arraycopyName, .static arraycopyName, .initialized "java/lang/System", .fieldLink RX1 15 "PhosphorHush$Screen" "order" "[I", .fieldLink RX1 31 "PhosphorHush$Screen" "size" "I", .fieldLink RX1 18 "PhosphorHush$Screen" "pictures" "[J", .fieldLink RX1 22 "PhosphorHush$Screen" "settings" "[I"] ++ wsX10)
def wsX1_putSetting : List Cond := .code yX1_putSetting cX1_putSetting 4 (some .int) :: ([.fieldLink RX1 35 "PhosphorHush$Screen" "LEAST" "[I", .fieldLink RX1 38 "PhosphorHush$Screen" "MOST" "[I", .fieldLink RX1 22 "PhosphorHush$Screen" "settings" "[I"] ++ wsX10)
def wsX4_isSpot : List Cond := .code yX4_isSpot cX4_isSpot 1 (some .boolean) :: ([])
def wsX4_isPhosphor : List Cond := .code yX4_isPhosphor cX4_isPhosphor 1 (some .boolean) :: ([])
def wsX1_putPhosphor : List Cond := .code yX1_putPhosphor cX1_putPhosphor 4 (some .int) :: ([.fieldLink RX1 9 "PhosphorHush$Screen" "phosphors" "[I", .static yX4_isSpot, .initialized RX4, .code yX4_isSpot cX4_isSpot 1 (some .boolean), .static yX4_isPhosphor, .code yX4_isPhosphor cX4_isPhosphor 1 (some .boolean)] ++ wsX10)
def wsX1_positionOf : List Cond := .code yX1_positionOf cX1_positionOf 3 (some .int) :: ([.fieldLink RX1 31 "PhosphorHush$Screen" "size" "I", .fieldLink RX1 15 "PhosphorHush$Screen" "order" "[I"] ++ wsX10)
def wsX1_addSpot : List Cond := .code yX1_addSpot cX1_addSpot 2 (some .int) :: ([.fieldLink RX1 31 "PhosphorHush$Screen" "size" "I", .fieldLink RX1 15 "PhosphorHush$Screen" "order" "[I", .static yX4_isSpot, .initialized RX4, .code yX4_isSpot cX4_isSpot 1 (some .boolean), .methodLink RX1 48 yX1_positionOf, .instanceMethod yX1_positionOf, .selects RX1 yX1_positionOf yX1_positionOf, .initialized RX1, .code yX1_positionOf cX1_positionOf 3 (some .int)] ++ wsX10)
def wsX1_removeSpot : List Cond := .code yX1_removeSpot cX1_removeSpot 4 (some .int) :: ([.fieldLink RX1 31 "PhosphorHush$Screen" "size" "I", .fieldLink RX1 15 "PhosphorHush$Screen" "order" "[I", .static yX4_isSpot, .initialized RX4, .code yX4_isSpot cX4_isSpot 1 (some .boolean), .methodLink RX1 48 yX1_positionOf, .instanceMethod yX1_positionOf, .selects RX1 yX1_positionOf yX1_positionOf, .initialized RX1, .code yX1_positionOf cX1_positionOf 3 (some .int)] ++ wsX10)
def wsX1_swap : List Cond := .code yX1_swap cX1_swap 4 none :: ([.fieldLink RX1 15 "PhosphorHush$Screen" "order" "[I"] ++ wsX10)
def wsX4_way : List Cond := .code yX4_way cX4_way 2 (some .int) :: ([.methodLink RX4 208 Lib.Math.abs.name, .static Lib.Math.abs.name, .initialized "java/lang/Math", .code Lib.Math.abs.name Lib.Math.abs.code 1 (some .int)])
def wsX1_arrival : List Cond := .code yX1_arrival cX1_arrival 5 (some .int) :: ([.fieldLink RX1 31 "PhosphorHush$Screen" "size" "I", .fieldLink RX1 15 "PhosphorHush$Screen" "order" "[I", .fieldLink RX1 22 "PhosphorHush$Screen" "settings" "[I", .static yX4_way, .initialized RX4, .code yX4_way cX4_way 2 (some .int), .methodLink RX4 208 Lib.Math.abs.name, .static Lib.Math.abs.name, .initialized "java/lang/Math", .code Lib.Math.abs.name Lib.Math.abs.code 1 (some .int)] ++ wsX10)
def wsX1_litSize : List Cond := .code yX1_litSize cX1_litSize 2 (some .int) :: ([.fieldLink RX1 31 "PhosphorHush$Screen" "size" "I", .fieldLink RX1 22 "PhosphorHush$Screen" "settings" "[I", .methodLink RX1 83 yX1_arrival, .instanceMethod yX1_arrival, .selects RX1 yX1_arrival yX1_arrival, .initialized RX1, .code yX1_arrival cX1_arrival 5 (some .int), .fieldLink RX1 15 "PhosphorHush$Screen" "order" "[I", .static yX4_way, .initialized RX4, .code yX4_way cX4_way 2 (some .int), .methodLink RX4 208 Lib.Math.abs.name, .static Lib.Math.abs.name, .initialized "java/lang/Math", .code Lib.Math.abs.name Lib.Math.abs.code 1 (some .int)] ++ wsX10)
def wsX1_swapPositions : List Cond := .code yX1_swapPositions cX1_swapPositions 3 (some .int) :: ([.fieldLink RX1 31 "PhosphorHush$Screen" "size" "I", .methodLink RX1 52 yX1_swap, .instanceMethod yX1_swap, .selects RX1 yX1_swap yX1_swap, .initialized RX1, .code yX1_swap cX1_swap 4 none, .fieldLink RX1 15 "PhosphorHush$Screen" "order" "[I", .methodLink RX1 56 yX1_litSize, .instanceMethod yX1_litSize, .selects RX1 yX1_litSize yX1_litSize, .code yX1_litSize cX1_litSize 2 (some .int), .fieldLink RX1 22 "PhosphorHush$Screen" "settings" "[I", .methodLink RX1 83 yX1_arrival, .instanceMethod yX1_arrival, .selects RX1 yX1_arrival yX1_arrival, .code yX1_arrival cX1_arrival 5 (some .int), .static yX4_way, .initialized RX4, .code yX4_way cX4_way 2 (some .int), .methodLink RX4 208 Lib.Math.abs.name, .static Lib.Math.abs.name, .initialized "java/lang/Math", .code Lib.Math.abs.name Lib.Math.abs.code 1 (some .int)] ++ wsX10)
def wsX4_bit : List Cond := .code yX4_bit cX4_bit 3 (some .int) :: ([])
def wsX4_glow : List Cond := .code yX4_glow cX4_glow 2 (some .int) :: ([.methodLink RX4 200 Lib.Math.max.name, .static Lib.Math.max.name, .initialized "java/lang/Math", .code Lib.Math.max.name Lib.Math.max.code 2 (some .int)])
def wsX4_ticksAbove : List Cond := .code yX4_ticksAbove cX4_ticksAbove 3 (some .int) :: ([.methodLink RX4 211 yX4_glow, .static yX4_glow, .initialized RX4, .code yX4_glow cX4_glow 2 (some .int), .methodLink RX4 200 Lib.Math.max.name, .static Lib.Math.max.name, .initialized "java/lang/Math", .code Lib.Math.max.name Lib.Math.max.code 2 (some .int)])
def wsX1_rank : List Cond := .code yX1_rank cX1_rank 4 (some .int) :: ([.fieldLink RX1 18 "PhosphorHush$Screen" "pictures" "[J", .fieldLink RX1 9 "PhosphorHush$Screen" "phosphors" "[I", .static yX4_bit, .initialized RX4, .code yX4_bit cX4_bit 3 (some .int), .static yX4_way, .code yX4_way cX4_way 2 (some .int), .methodLink RX4 208 Lib.Math.abs.name, .static Lib.Math.abs.name, .initialized "java/lang/Math", .code Lib.Math.abs.name Lib.Math.abs.code 1 (some .int), .static yX4_ticksAbove, .code yX4_ticksAbove cX4_ticksAbove 3 (some .int), .methodLink RX4 211 yX4_glow, .static yX4_glow, .code yX4_glow cX4_glow 2 (some .int), .methodLink RX4 200 Lib.Math.max.name, .static Lib.Math.max.name, .code Lib.Math.max.name Lib.Math.max.code 2 (some .int)] ++ wsX10)
def wsX1_arrange_r1 : List Cond := [Cond.fieldLink RX1 31 "PhosphorHush$Screen" "size" "I", Cond.fieldLink RX1 15 "PhosphorHush$Screen" "order" "[I", Cond.methodLink RX1 60 yX1_rank, Cond.instanceMethod yX1_rank, Cond.selects RX1 yX1_rank yX1_rank, Cond.initialized RX1, Cond.code yX1_rank cX1_rank 4 (some .int), Cond.fieldLink RX1 18 "PhosphorHush$Screen" "pictures" "[J", Cond.fieldLink RX1 9 "PhosphorHush$Screen" "phosphors" "[I", Cond.static yX4_bit, Cond.initialized RX4, Cond.code yX4_bit cX4_bit 3 (some .int), Cond.static yX4_way, Cond.code yX4_way cX4_way 2 (some .int), Cond.methodLink RX4 208 Lib.Math.abs.name, Cond.static Lib.Math.abs.name, Cond.initialized "java/lang/Math", Cond.code Lib.Math.abs.name Lib.Math.abs.code 1 (some .int), Cond.static yX4_ticksAbove, Cond.code yX4_ticksAbove cX4_ticksAbove 3 (some .int), Cond.methodLink RX4 211 yX4_glow, Cond.static yX4_glow, Cond.code yX4_glow cX4_glow 2 (some .int), Cond.methodLink RX4 200 Lib.Math.max.name]
def wsX1_arrange_r2 : List Cond := [Cond.static Lib.Math.max.name, Cond.code Lib.Math.max.name Lib.Math.max.code 2 (some .int), Cond.methodLink RX1 52 yX1_swap, Cond.instanceMethod yX1_swap, Cond.selects RX1 yX1_swap yX1_swap, Cond.code yX1_swap cX1_swap 4 none, Cond.methodLink RX1 56 yX1_litSize, Cond.instanceMethod yX1_litSize, Cond.selects RX1 yX1_litSize yX1_litSize, Cond.code yX1_litSize cX1_litSize 2 (some .int), Cond.fieldLink RX1 22 "PhosphorHush$Screen" "settings" "[I", Cond.methodLink RX1 83 yX1_arrival, Cond.instanceMethod yX1_arrival, Cond.selects RX1 yX1_arrival yX1_arrival, Cond.code yX1_arrival cX1_arrival 5 (some .int)]
def wsX1_arrange : List Cond := .code yX1_arrange cX1_arrange 6 (some .int) :: ((wsX1_arrange_r1 ++ wsX1_arrange_r2) ++ wsX10)
def wsJ13_bitCount_95d88 : List Cond := .code yJ13_bitCount_95d88 cJ13_bitCount_95d88 2 (some .int) :: ([.constantLong RJ13 314 (6148914691236517205), .constantLong RJ13 316 (3689348814741910323), .constantLong RJ13 318 (1085102592571150095)])
def wsX1_paint : List Cond := .code yX1_paint cX1_paint 4 (some .int) :: ([.fieldLink RX1 18 "PhosphorHush$Screen" "pictures" "[J", .constantLong RX1 75 (-1), .static yX4_isSpot, .initialized RX4, .code yX4_isSpot cX4_isSpot 1 (some .boolean), .methodLink RX1 77 yJ13_bitCount_95d88, .static yJ13_bitCount_95d88, .initialized RJ13, .code yJ13_bitCount_95d88 cJ13_bitCount_95d88 2 (some .int), .constantLong RJ13 314 (6148914691236517205), .constantLong RJ13 316 (3689348814741910323), .constantLong RJ13 318 (1085102592571150095)] ++ wsX10)
def wsX1_spotsOfOrder : List Cond := .code yX1_spotsOfOrder cX1_spotsOfOrder 4 (some .long) :: ([.fieldLink RX1 31 "PhosphorHush$Screen" "size" "I", .fieldLink RX1 15 "PhosphorHush$Screen" "order" "[I"] ++ wsX10)
def wsX1_sumOfWays : List Cond := .code yX1_sumOfWays cX1_sumOfWays 4 (some .int) :: ([.fieldLink RX1 31 "PhosphorHush$Screen" "size" "I", .fieldLink RX1 15 "PhosphorHush$Screen" "order" "[I", .static yX4_way, .initialized RX4, .code yX4_way cX4_way 2 (some .int), .methodLink RX4 208 Lib.Math.abs.name, .static Lib.Math.abs.name, .initialized "java/lang/Math", .code Lib.Math.abs.name Lib.Math.abs.code 1 (some .int)] ++ wsX10)
def wsX1_litTick : List Cond := .code yX1_litTick cX1_litTick 3 (some .int) :: ([.fieldLink RX1 22 "PhosphorHush$Screen" "settings" "[I", .methodLink RX1 48 yX1_positionOf, .instanceMethod yX1_positionOf, .selects RX1 yX1_positionOf yX1_positionOf, .initialized RX1, .code yX1_positionOf cX1_positionOf 3 (some .int), .fieldLink RX1 31 "PhosphorHush$Screen" "size" "I", .fieldLink RX1 15 "PhosphorHush$Screen" "order" "[I", .methodLink RX1 83 yX1_arrival, .instanceMethod yX1_arrival, .selects RX1 yX1_arrival yX1_arrival, .code yX1_arrival cX1_arrival 5 (some .int), .static yX4_way, .initialized RX4, .code yX4_way cX4_way 2 (some .int), .methodLink RX4 208 Lib.Math.abs.name, .static Lib.Math.abs.name, .initialized "java/lang/Math", .code Lib.Math.abs.name Lib.Math.abs.code 1 (some .int)] ++ wsX10)
def wsX1_shine : List Cond := .code yX1_shine cX1_shine 5 (some .int) :: ([.fieldLink RX1 9 "PhosphorHush$Screen" "phosphors" "[I", .fieldLink RX1 22 "PhosphorHush$Screen" "settings" "[I", .static yX4_glow, .initialized RX4, .code yX4_glow cX4_glow 2 (some .int), .methodLink RX4 200 Lib.Math.max.name, .static Lib.Math.max.name, .initialized "java/lang/Math", .code Lib.Math.max.name Lib.Math.max.code 2 (some .int)] ++ wsX10)
def wsX1_next : List Cond := .code yX1_next cX1_next 2 (some .int) :: ([.fieldLink RX1 22 "PhosphorHush$Screen" "settings" "[I"] ++ wsX10)
def wsX1_sumOver_r1 : List Cond := [Cond.methodLink RX1 89 yX1_litTick, Cond.instanceMethod yX1_litTick, Cond.selects RX1 yX1_litTick yX1_litTick, Cond.initialized RX1, Cond.code yX1_litTick cX1_litTick 3 (some .int), Cond.fieldLink RX1 22 "PhosphorHush$Screen" "settings" "[I", Cond.methodLink RX1 48 yX1_positionOf, Cond.instanceMethod yX1_positionOf, Cond.selects RX1 yX1_positionOf yX1_positionOf, Cond.code yX1_positionOf cX1_positionOf 3 (some .int), Cond.fieldLink RX1 31 "PhosphorHush$Screen" "size" "I", Cond.fieldLink RX1 15 "PhosphorHush$Screen" "order" "[I", Cond.methodLink RX1 83 yX1_arrival, Cond.instanceMethod yX1_arrival, Cond.selects RX1 yX1_arrival yX1_arrival, Cond.code yX1_arrival cX1_arrival 5 (some .int), Cond.static yX4_way, Cond.initialized RX4, Cond.code yX4_way cX4_way 2 (some .int), Cond.methodLink RX4 208 Lib.Math.abs.name, Cond.static Lib.Math.abs.name, Cond.initialized "java/lang/Math", Cond.code Lib.Math.abs.name Lib.Math.abs.code 1 (some .int), Cond.methodLink RX1 92 yX1_shine]
def wsX1_sumOver_r2 : List Cond := [Cond.instanceMethod yX1_shine, Cond.selects RX1 yX1_shine yX1_shine, Cond.code yX1_shine cX1_shine 5 (some .int), Cond.fieldLink RX1 9 "PhosphorHush$Screen" "phosphors" "[I", Cond.static yX4_glow, Cond.code yX4_glow cX4_glow 2 (some .int), Cond.methodLink RX4 200 Lib.Math.max.name, Cond.static Lib.Math.max.name, Cond.code Lib.Math.max.name Lib.Math.max.code 2 (some .int), Cond.methodLink RX1 95 yX1_next, Cond.instanceMethod yX1_next, Cond.selects RX1 yX1_next yX1_next, Cond.code yX1_next cX1_next 2 (some .int)]
def wsX1_sumOver : List Cond := .code yX1_sumOver cX1_sumOver 8 (some .int) :: ((wsX1_sumOver_r1 ++ wsX1_sumOver_r2) ++ wsX10)
def wsX1_startInFrame : List Cond := .code yX1_startInFrame cX1_startInFrame 2 (some .int) :: ([.fieldLink RX1 22 "PhosphorHush$Screen" "settings" "[I"] ++ wsX10)
def wsX1_mean : List Cond := .code yX1_mean cX1_mean 2 (some .int) :: ([])
def wsX1_eyeMean_r1 : List Cond := [Cond.fieldLink RX1 22 "PhosphorHush$Screen" "settings" "[I", Cond.methodLink RX1 98 yX1_sumOver, Cond.instanceMethod yX1_sumOver, Cond.selects RX1 yX1_sumOver yX1_sumOver, Cond.initialized RX1, Cond.code yX1_sumOver cX1_sumOver 8 (some .int), Cond.methodLink RX1 89 yX1_litTick, Cond.instanceMethod yX1_litTick, Cond.selects RX1 yX1_litTick yX1_litTick, Cond.code yX1_litTick cX1_litTick 3 (some .int), Cond.methodLink RX1 48 yX1_positionOf, Cond.instanceMethod yX1_positionOf, Cond.selects RX1 yX1_positionOf yX1_positionOf, Cond.code yX1_positionOf cX1_positionOf 3 (some .int), Cond.fieldLink RX1 31 "PhosphorHush$Screen" "size" "I", Cond.fieldLink RX1 15 "PhosphorHush$Screen" "order" "[I", Cond.methodLink RX1 83 yX1_arrival, Cond.instanceMethod yX1_arrival, Cond.selects RX1 yX1_arrival yX1_arrival, Cond.code yX1_arrival cX1_arrival 5 (some .int), Cond.static yX4_way, Cond.initialized RX4, Cond.code yX4_way cX4_way 2 (some .int), Cond.methodLink RX4 208 Lib.Math.abs.name]
def wsX1_eyeMean_r2 : List Cond := [Cond.static Lib.Math.abs.name, Cond.initialized "java/lang/Math", Cond.code Lib.Math.abs.name Lib.Math.abs.code 1 (some .int), Cond.methodLink RX1 92 yX1_shine, Cond.instanceMethod yX1_shine, Cond.selects RX1 yX1_shine yX1_shine, Cond.code yX1_shine cX1_shine 5 (some .int), Cond.fieldLink RX1 9 "PhosphorHush$Screen" "phosphors" "[I", Cond.static yX4_glow, Cond.code yX4_glow cX4_glow 2 (some .int), Cond.methodLink RX4 200 Lib.Math.max.name, Cond.static Lib.Math.max.name, Cond.code Lib.Math.max.name Lib.Math.max.code 2 (some .int), Cond.methodLink RX1 95 yX1_next, Cond.instanceMethod yX1_next, Cond.selects RX1 yX1_next yX1_next, Cond.code yX1_next cX1_next 2 (some .int), Cond.methodLink RX1 101 yX1_mean, Cond.static yX1_mean, Cond.code yX1_mean cX1_mean 2 (some .int)]
def wsX1_eyeMean : List Cond := .code yX1_eyeMean cX1_eyeMean 2 (some .int) :: ((wsX1_eyeMean_r1 ++ wsX1_eyeMean_r2) ++ wsX10)
def wsX1_shutterMean_r1 : List Cond := [Cond.methodLink RX1 104 yX1_startInFrame, Cond.instanceMethod yX1_startInFrame, Cond.selects RX1 yX1_startInFrame yX1_startInFrame, Cond.initialized RX1, Cond.code yX1_startInFrame cX1_startInFrame 2 (some .int), Cond.fieldLink RX1 22 "PhosphorHush$Screen" "settings" "[I", Cond.methodLink RX1 98 yX1_sumOver, Cond.instanceMethod yX1_sumOver, Cond.selects RX1 yX1_sumOver yX1_sumOver, Cond.code yX1_sumOver cX1_sumOver 8 (some .int), Cond.methodLink RX1 89 yX1_litTick, Cond.instanceMethod yX1_litTick, Cond.selects RX1 yX1_litTick yX1_litTick, Cond.code yX1_litTick cX1_litTick 3 (some .int), Cond.methodLink RX1 48 yX1_positionOf, Cond.instanceMethod yX1_positionOf, Cond.selects RX1 yX1_positionOf yX1_positionOf, Cond.code yX1_positionOf cX1_positionOf 3 (some .int), Cond.fieldLink RX1 31 "PhosphorHush$Screen" "size" "I", Cond.fieldLink RX1 15 "PhosphorHush$Screen" "order" "[I", Cond.methodLink RX1 83 yX1_arrival, Cond.instanceMethod yX1_arrival, Cond.selects RX1 yX1_arrival yX1_arrival, Cond.code yX1_arrival cX1_arrival 5 (some .int)]
def wsX1_shutterMean_r2 : List Cond := [Cond.static yX4_way, Cond.initialized RX4, Cond.code yX4_way cX4_way 2 (some .int), Cond.methodLink RX4 208 Lib.Math.abs.name, Cond.static Lib.Math.abs.name, Cond.initialized "java/lang/Math", Cond.code Lib.Math.abs.name Lib.Math.abs.code 1 (some .int), Cond.methodLink RX1 92 yX1_shine, Cond.instanceMethod yX1_shine, Cond.selects RX1 yX1_shine yX1_shine, Cond.code yX1_shine cX1_shine 5 (some .int), Cond.fieldLink RX1 9 "PhosphorHush$Screen" "phosphors" "[I", Cond.static yX4_glow, Cond.code yX4_glow cX4_glow 2 (some .int), Cond.methodLink RX4 200 Lib.Math.max.name, Cond.static Lib.Math.max.name, Cond.code Lib.Math.max.name Lib.Math.max.code 2 (some .int), Cond.methodLink RX1 95 yX1_next, Cond.instanceMethod yX1_next, Cond.selects RX1 yX1_next yX1_next, Cond.code yX1_next cX1_next 2 (some .int), Cond.methodLink RX1 101 yX1_mean, Cond.static yX1_mean, Cond.code yX1_mean cX1_mean 2 (some .int)]
def wsX1_shutterMean : List Cond := .code yX1_shutterMean cX1_shutterMean 3 (some .int) :: ((wsX1_shutterMean_r1 ++ wsX1_shutterMean_r2) ++ wsX10)
def wsX1_flicker_r1 : List Cond := [Cond.fieldLink RX1 22 "PhosphorHush$Screen" "settings" "[I", Cond.methodLink RX1 107 Lib.Math.max.name, Cond.static Lib.Math.max.name, Cond.initialized "java/lang/Math", Cond.code Lib.Math.max.name Lib.Math.max.code 2 (some .int), Cond.methodLink RX1 112 Lib.Math.min.name, Cond.static Lib.Math.min.name, Cond.code Lib.Math.min.name Lib.Math.min.code 2 (some .int), Cond.methodLink RX1 89 yX1_litTick, Cond.instanceMethod yX1_litTick, Cond.selects RX1 yX1_litTick yX1_litTick, Cond.initialized RX1, Cond.code yX1_litTick cX1_litTick 3 (some .int), Cond.methodLink RX1 48 yX1_positionOf, Cond.instanceMethod yX1_positionOf, Cond.selects RX1 yX1_positionOf yX1_positionOf, Cond.code yX1_positionOf cX1_positionOf 3 (some .int), Cond.fieldLink RX1 31 "PhosphorHush$Screen" "size" "I", Cond.fieldLink RX1 15 "PhosphorHush$Screen" "order" "[I", Cond.methodLink RX1 83 yX1_arrival, Cond.instanceMethod yX1_arrival, Cond.selects RX1 yX1_arrival yX1_arrival, Cond.code yX1_arrival cX1_arrival 5 (some .int), Cond.static yX4_way]
def wsX1_flicker_r2 : List Cond := [Cond.initialized RX4, Cond.code yX4_way cX4_way 2 (some .int), Cond.methodLink RX4 208 Lib.Math.abs.name, Cond.static Lib.Math.abs.name, Cond.code Lib.Math.abs.name Lib.Math.abs.code 1 (some .int), Cond.methodLink RX1 92 yX1_shine, Cond.instanceMethod yX1_shine, Cond.selects RX1 yX1_shine yX1_shine, Cond.code yX1_shine cX1_shine 5 (some .int), Cond.fieldLink RX1 9 "PhosphorHush$Screen" "phosphors" "[I", Cond.static yX4_glow, Cond.code yX4_glow cX4_glow 2 (some .int), Cond.methodLink RX4 200 Lib.Math.max.name]
def wsX1_flicker : List Cond := .code yX1_flicker cX1_flicker 7 (some .int) :: ((wsX1_flicker_r1 ++ wsX1_flicker_r2) ++ wsX10)
def wsX1_seen_r1 : List Cond := [Cond.fieldLink RX1 31 "PhosphorHush$Screen" "size" "I", Cond.fieldLink RX1 15 "PhosphorHush$Screen" "order" "[I", Cond.methodLink RX1 98 yX1_sumOver, Cond.instanceMethod yX1_sumOver, Cond.selects RX1 yX1_sumOver yX1_sumOver, Cond.initialized RX1, Cond.code yX1_sumOver cX1_sumOver 8 (some .int), Cond.methodLink RX1 89 yX1_litTick, Cond.instanceMethod yX1_litTick, Cond.selects RX1 yX1_litTick yX1_litTick, Cond.code yX1_litTick cX1_litTick 3 (some .int), Cond.fieldLink RX1 22 "PhosphorHush$Screen" "settings" "[I", Cond.methodLink RX1 48 yX1_positionOf, Cond.instanceMethod yX1_positionOf, Cond.selects RX1 yX1_positionOf yX1_positionOf, Cond.code yX1_positionOf cX1_positionOf 3 (some .int), Cond.methodLink RX1 83 yX1_arrival, Cond.instanceMethod yX1_arrival, Cond.selects RX1 yX1_arrival yX1_arrival, Cond.code yX1_arrival cX1_arrival 5 (some .int), Cond.static yX4_way, Cond.initialized RX4, Cond.code yX4_way cX4_way 2 (some .int), Cond.methodLink RX4 208 Lib.Math.abs.name]
def wsX1_seen_r2 : List Cond := [Cond.static Lib.Math.abs.name, Cond.initialized "java/lang/Math", Cond.code Lib.Math.abs.name Lib.Math.abs.code 1 (some .int), Cond.methodLink RX1 92 yX1_shine, Cond.instanceMethod yX1_shine, Cond.selects RX1 yX1_shine yX1_shine, Cond.code yX1_shine cX1_shine 5 (some .int), Cond.fieldLink RX1 9 "PhosphorHush$Screen" "phosphors" "[I", Cond.static yX4_glow, Cond.code yX4_glow cX4_glow 2 (some .int), Cond.methodLink RX4 200 Lib.Math.max.name, Cond.static Lib.Math.max.name, Cond.code Lib.Math.max.name Lib.Math.max.code 2 (some .int), Cond.methodLink RX1 95 yX1_next, Cond.instanceMethod yX1_next, Cond.selects RX1 yX1_next yX1_next, Cond.code yX1_next cX1_next 2 (some .int), Cond.methodLink RX1 101 yX1_mean, Cond.static yX1_mean, Cond.code yX1_mean cX1_mean 2 (some .int)]
def wsX1_seen : List Cond := .code yX1_seen cX1_seen 7 (some .long) :: ((wsX1_seen_r1 ++ wsX1_seen_r2) ++ wsX10)
def wsX1_seenByEye_r1 : List Cond := [Cond.fieldLink RX1 22 "PhosphorHush$Screen" "settings" "[I", Cond.methodLink RX1 115 yX1_seen, Cond.instanceMethod yX1_seen, Cond.selects RX1 yX1_seen yX1_seen, Cond.initialized RX1, Cond.code yX1_seen cX1_seen 7 (some .long), Cond.fieldLink RX1 31 "PhosphorHush$Screen" "size" "I", Cond.fieldLink RX1 15 "PhosphorHush$Screen" "order" "[I", Cond.methodLink RX1 98 yX1_sumOver, Cond.instanceMethod yX1_sumOver, Cond.selects RX1 yX1_sumOver yX1_sumOver, Cond.code yX1_sumOver cX1_sumOver 8 (some .int), Cond.methodLink RX1 89 yX1_litTick, Cond.instanceMethod yX1_litTick, Cond.selects RX1 yX1_litTick yX1_litTick, Cond.code yX1_litTick cX1_litTick 3 (some .int), Cond.methodLink RX1 48 yX1_positionOf, Cond.instanceMethod yX1_positionOf, Cond.selects RX1 yX1_positionOf yX1_positionOf, Cond.code yX1_positionOf cX1_positionOf 3 (some .int), Cond.methodLink RX1 83 yX1_arrival, Cond.instanceMethod yX1_arrival, Cond.selects RX1 yX1_arrival yX1_arrival, Cond.code yX1_arrival cX1_arrival 5 (some .int)]
def wsX1_seenByEye_r2 : List Cond := [Cond.static yX4_way, Cond.initialized RX4, Cond.code yX4_way cX4_way 2 (some .int), Cond.methodLink RX4 208 Lib.Math.abs.name, Cond.static Lib.Math.abs.name, Cond.initialized "java/lang/Math", Cond.code Lib.Math.abs.name Lib.Math.abs.code 1 (some .int), Cond.methodLink RX1 92 yX1_shine, Cond.instanceMethod yX1_shine, Cond.selects RX1 yX1_shine yX1_shine, Cond.code yX1_shine cX1_shine 5 (some .int), Cond.fieldLink RX1 9 "PhosphorHush$Screen" "phosphors" "[I", Cond.static yX4_glow, Cond.code yX4_glow cX4_glow 2 (some .int), Cond.methodLink RX4 200 Lib.Math.max.name, Cond.static Lib.Math.max.name, Cond.code Lib.Math.max.name Lib.Math.max.code 2 (some .int), Cond.methodLink RX1 95 yX1_next, Cond.instanceMethod yX1_next, Cond.selects RX1 yX1_next yX1_next, Cond.code yX1_next cX1_next 2 (some .int), Cond.methodLink RX1 101 yX1_mean, Cond.static yX1_mean, Cond.code yX1_mean cX1_mean 2 (some .int)]
def wsX1_seenByEye : List Cond := .code yX1_seenByEye cX1_seenByEye 1 (some .long) :: ((wsX1_seenByEye_r1 ++ wsX1_seenByEye_r2) ++ wsX10)
def wsX1_seenByShutter_r1 : List Cond := [Cond.fieldLink RX1 22 "PhosphorHush$Screen" "settings" "[I", Cond.methodLink RX1 104 yX1_startInFrame, Cond.instanceMethod yX1_startInFrame, Cond.selects RX1 yX1_startInFrame yX1_startInFrame, Cond.initialized RX1, Cond.code yX1_startInFrame cX1_startInFrame 2 (some .int), Cond.methodLink RX1 115 yX1_seen, Cond.instanceMethod yX1_seen, Cond.selects RX1 yX1_seen yX1_seen, Cond.code yX1_seen cX1_seen 7 (some .long), Cond.fieldLink RX1 31 "PhosphorHush$Screen" "size" "I", Cond.fieldLink RX1 15 "PhosphorHush$Screen" "order" "[I", Cond.methodLink RX1 98 yX1_sumOver, Cond.instanceMethod yX1_sumOver, Cond.selects RX1 yX1_sumOver yX1_sumOver, Cond.code yX1_sumOver cX1_sumOver 8 (some .int), Cond.methodLink RX1 89 yX1_litTick, Cond.instanceMethod yX1_litTick, Cond.selects RX1 yX1_litTick yX1_litTick, Cond.code yX1_litTick cX1_litTick 3 (some .int), Cond.methodLink RX1 48 yX1_positionOf, Cond.instanceMethod yX1_positionOf, Cond.selects RX1 yX1_positionOf yX1_positionOf, Cond.code yX1_positionOf cX1_positionOf 3 (some .int)]
def wsX1_seenByShutter_r2 : List Cond := [Cond.methodLink RX1 83 yX1_arrival, Cond.instanceMethod yX1_arrival, Cond.selects RX1 yX1_arrival yX1_arrival, Cond.code yX1_arrival cX1_arrival 5 (some .int), Cond.static yX4_way, Cond.initialized RX4, Cond.code yX4_way cX4_way 2 (some .int), Cond.methodLink RX4 208 Lib.Math.abs.name, Cond.static Lib.Math.abs.name, Cond.initialized "java/lang/Math", Cond.code Lib.Math.abs.name Lib.Math.abs.code 1 (some .int), Cond.methodLink RX1 92 yX1_shine, Cond.instanceMethod yX1_shine, Cond.selects RX1 yX1_shine yX1_shine, Cond.code yX1_shine cX1_shine 5 (some .int), Cond.fieldLink RX1 9 "PhosphorHush$Screen" "phosphors" "[I", Cond.static yX4_glow, Cond.code yX4_glow cX4_glow 2 (some .int), Cond.methodLink RX4 200 Lib.Math.max.name, Cond.static Lib.Math.max.name, Cond.code Lib.Math.max.name Lib.Math.max.code 2 (some .int), Cond.methodLink RX1 95 yX1_next, Cond.instanceMethod yX1_next, Cond.selects RX1 yX1_next yX1_next]
def wsX1_seenByShutter_r3 : List Cond := [Cond.code yX1_next cX1_next 2 (some .int), Cond.methodLink RX1 101 yX1_mean, Cond.static yX1_mean, Cond.code yX1_mean cX1_mean 2 (some .int)]
def wsX1_seenByShutter : List Cond := .code yX1_seenByShutter cX1_seenByShutter 2 (some .long) :: ((wsX1_seenByShutter_r1 ++ (wsX1_seenByShutter_r2 ++ wsX1_seenByShutter_r3)) ++ wsX10)
def wsX1_wrong : List Cond := .code yX1_wrong cX1_wrong 4 (some .long) :: ([.fieldLink RX1 18 "PhosphorHush$Screen" "pictures" "[J"] ++ wsX10)
def wsJ7_fill_53178 : List Cond := .code yJ7_fill_53178 cJ7_fill_53178 4 none :: ([])
def wsX1_countSeen_r1 : List Cond := [Cond.fieldLink RX1 18 "PhosphorHush$Screen" "pictures" "[J", Cond.fieldLink RX1 22 "PhosphorHush$Screen" "settings" "[I", Cond.static yX4_bit, Cond.initialized RX4, Cond.code yX4_bit cX4_bit 3 (some .int), Cond.methodLink RX1 89 yX1_litTick, Cond.instanceMethod yX1_litTick, Cond.selects RX1 yX1_litTick yX1_litTick, Cond.initialized RX1, Cond.code yX1_litTick cX1_litTick 3 (some .int), Cond.methodLink RX1 48 yX1_positionOf, Cond.instanceMethod yX1_positionOf, Cond.selects RX1 yX1_positionOf yX1_positionOf, Cond.code yX1_positionOf cX1_positionOf 3 (some .int), Cond.fieldLink RX1 31 "PhosphorHush$Screen" "size" "I", Cond.fieldLink RX1 15 "PhosphorHush$Screen" "order" "[I", Cond.methodLink RX1 83 yX1_arrival, Cond.instanceMethod yX1_arrival, Cond.selects RX1 yX1_arrival yX1_arrival, Cond.code yX1_arrival cX1_arrival 5 (some .int), Cond.static yX4_way, Cond.code yX4_way cX4_way 2 (some .int), Cond.methodLink RX4 208 Lib.Math.abs.name, Cond.static Lib.Math.abs.name]
def wsX1_countSeen_r2 : List Cond := [Cond.initialized "java/lang/Math", Cond.code Lib.Math.abs.name Lib.Math.abs.code 1 (some .int), Cond.methodLink RX1 98 yX1_sumOver, Cond.instanceMethod yX1_sumOver, Cond.selects RX1 yX1_sumOver yX1_sumOver, Cond.code yX1_sumOver cX1_sumOver 8 (some .int), Cond.methodLink RX1 92 yX1_shine, Cond.instanceMethod yX1_shine, Cond.selects RX1 yX1_shine yX1_shine, Cond.code yX1_shine cX1_shine 5 (some .int), Cond.fieldLink RX1 9 "PhosphorHush$Screen" "phosphors" "[I", Cond.static yX4_glow, Cond.code yX4_glow cX4_glow 2 (some .int), Cond.methodLink RX4 200 Lib.Math.max.name, Cond.static Lib.Math.max.name, Cond.code Lib.Math.max.name Lib.Math.max.code 2 (some .int), Cond.methodLink RX1 95 yX1_next, Cond.instanceMethod yX1_next, Cond.selects RX1 yX1_next yX1_next, Cond.code yX1_next cX1_next 2 (some .int), Cond.methodLink RX1 101 yX1_mean, Cond.static yX1_mean, Cond.code yX1_mean cX1_mean 2 (some .int)]
def wsX1_countSeen : List Cond := .code yX1_countSeen cX1_countSeen 9 none :: ((wsX1_countSeen_r1 ++ wsX1_countSeen_r2) ++ wsX10)
def wsX1_countWrong_r1 : List Cond := [Cond.fieldLink RX1 18 "PhosphorHush$Screen" "pictures" "[J", Cond.fieldLink RX1 31 "PhosphorHush$Screen" "size" "I", Cond.fieldLink RX1 15 "PhosphorHush$Screen" "order" "[I", Cond.methodLink RX1 77 yJ13_bitCount_95d88, Cond.static yJ13_bitCount_95d88, Cond.initialized RJ13, Cond.code yJ13_bitCount_95d88 cJ13_bitCount_95d88 2 (some .int), Cond.constantLong RJ13 314 (6148914691236517205), Cond.constantLong RJ13 316 (3689348814741910323), Cond.constantLong RJ13 318 (1085102592571150095), Cond.methodLink RX1 119 yJ7_fill_53178, Cond.static yJ7_fill_53178, Cond.initialized RJ7, Cond.code yJ7_fill_53178 cJ7_fill_53178 4 none, Cond.methodLink RX1 125 yX1_countSeen, Cond.instanceMethod yX1_countSeen, Cond.selects RX1 yX1_countSeen yX1_countSeen, Cond.initialized RX1, Cond.code yX1_countSeen cX1_countSeen 9 none, Cond.fieldLink RX1 22 "PhosphorHush$Screen" "settings" "[I", Cond.static yX4_bit, Cond.initialized RX4, Cond.code yX4_bit cX4_bit 3 (some .int), Cond.methodLink RX1 89 yX1_litTick]
def wsX1_countWrong_r2 : List Cond := [Cond.instanceMethod yX1_litTick, Cond.selects RX1 yX1_litTick yX1_litTick, Cond.code yX1_litTick cX1_litTick 3 (some .int), Cond.methodLink RX1 48 yX1_positionOf, Cond.instanceMethod yX1_positionOf, Cond.selects RX1 yX1_positionOf yX1_positionOf, Cond.code yX1_positionOf cX1_positionOf 3 (some .int), Cond.methodLink RX1 83 yX1_arrival, Cond.instanceMethod yX1_arrival, Cond.selects RX1 yX1_arrival yX1_arrival, Cond.code yX1_arrival cX1_arrival 5 (some .int), Cond.static yX4_way, Cond.code yX4_way cX4_way 2 (some .int), Cond.methodLink RX4 208 Lib.Math.abs.name, Cond.static Lib.Math.abs.name, Cond.initialized "java/lang/Math", Cond.code Lib.Math.abs.name Lib.Math.abs.code 1 (some .int), Cond.methodLink RX1 98 yX1_sumOver, Cond.instanceMethod yX1_sumOver, Cond.selects RX1 yX1_sumOver yX1_sumOver, Cond.code yX1_sumOver cX1_sumOver 8 (some .int), Cond.methodLink RX1 92 yX1_shine, Cond.instanceMethod yX1_shine, Cond.selects RX1 yX1_shine yX1_shine]
def wsX1_countWrong_r3 : List Cond := [Cond.code yX1_shine cX1_shine 5 (some .int), Cond.fieldLink RX1 9 "PhosphorHush$Screen" "phosphors" "[I", Cond.static yX4_glow, Cond.code yX4_glow cX4_glow 2 (some .int), Cond.methodLink RX4 200 Lib.Math.max.name, Cond.static Lib.Math.max.name, Cond.code Lib.Math.max.name Lib.Math.max.code 2 (some .int), Cond.methodLink RX1 95 yX1_next, Cond.instanceMethod yX1_next, Cond.selects RX1 yX1_next yX1_next, Cond.code yX1_next cX1_next 2 (some .int), Cond.methodLink RX1 101 yX1_mean, Cond.static yX1_mean, Cond.code yX1_mean cX1_mean 2 (some .int)]
def wsX1_countWrong : List Cond := .code yX1_countWrong cX1_countWrong 3 none :: ((wsX1_countWrong_r1 ++ (wsX1_countWrong_r2 ++ wsX1_countWrong_r3)) ++ wsX10)
def wsX2_init : List Cond := .code yX2_init cX2_init 2 none :: ([.methodLink RX2 3 objectInit, .instanceMethod objectInit, .code objectInit ⟨#[0xb1]⟩ 1 none, .classLink RX2 9 RX1, .instantiable RX1 5, .initialized RX1, .fieldLink RX2 12 "PhosphorHush$State" "shown" "LPhosphorHush$Screen;", .fieldLink RX2 18 "PhosphorHush$State" "slots" "[LPhosphorHush$Screen;", .arrayClass .boolean, .fieldLink RX2 22 "PhosphorHush$State" "taken" "[Z", .instanceMethod yX1_init, .code yX1_init cX1_init 1 none, .methodLink RX1 3 objectInit, .arrayClass .int, .fieldLink RX1 9 "PhosphorHush$Screen" "phosphors" "[I", .fieldLink RX1 15 "PhosphorHush$Screen" "order" "[I", .arrayClass .long, .fieldLink RX1 18 "PhosphorHush$Screen" "pictures" "[J", .fieldLink RX1 22 "PhosphorHush$Screen" "settings" "[I"] ++ wsX10 ++ wsX20)
def wsX2_copyFrom : List Cond := .code yX2_copyFrom cX2_copyFrom 3 none :: ([.fieldLink RX2 12 "PhosphorHush$State" "shown" "LPhosphorHush$Screen;", .fieldLink RX2 18 "PhosphorHush$State" "slots" "[LPhosphorHush$Screen;", .fieldLink RX2 22 "PhosphorHush$State" "taken" "[Z", .methodLink RX2 26 yX1_copyFrom, .instanceMethod yX1_copyFrom, .selects RX1 yX1_copyFrom yX1_copyFrom, .initialized RX1, .code yX1_copyFrom cX1_copyFrom 2 none, .fieldLink RX1 9 "PhosphorHush$Screen" "phosphors" "[I", .methodLink RX1 25 arraycopyName, .native arraycopyName, .static arraycopyName, .initialized "java/lang/System", .fieldLink RX1 15 "PhosphorHush$Screen" "order" "[I", .fieldLink RX1 31 "PhosphorHush$Screen" "size" "I", .fieldLink RX1 18 "PhosphorHush$Screen" "pictures" "[J", .fieldLink RX1 22 "PhosphorHush$Screen" "settings" "[I"] ++ wsX20 ++ wsX10)
def wsX2_isSlot : List Cond := .code yX2_isSlot cX2_isSlot 1 (some .boolean) :: ([])
def wsX2_keepSnapshot : List Cond := .code yX2_keepSnapshot cX2_keepSnapshot 2 (some .int) :: ([.fieldLink RX2 18 "PhosphorHush$State" "slots" "[LPhosphorHush$Screen;", .fieldLink RX2 12 "PhosphorHush$State" "shown" "LPhosphorHush$Screen;", .fieldLink RX2 22 "PhosphorHush$State" "taken" "[Z", .fieldLink RX2 34 "PhosphorHush$Screen" "size" "I", .methodLink RX2 30 yX2_isSlot, .static yX2_isSlot, .initialized RX2, .code yX2_isSlot cX2_isSlot 1 (some .boolean), .methodLink RX2 26 yX1_copyFrom, .instanceMethod yX1_copyFrom, .selects RX1 yX1_copyFrom yX1_copyFrom, .initialized RX1, .code yX1_copyFrom cX1_copyFrom 2 none, .fieldLink RX1 9 "PhosphorHush$Screen" "phosphors" "[I", .methodLink RX1 25 arraycopyName, .native arraycopyName, .static arraycopyName, .initialized "java/lang/System", .fieldLink RX1 15 "PhosphorHush$Screen" "order" "[I", .fieldLink RX1 31 "PhosphorHush$Screen" "size" "I", .fieldLink RX1 18 "PhosphorHush$Screen" "pictures" "[J", .fieldLink RX1 22 "PhosphorHush$Screen" "settings" "[I"] ++ wsX20 ++ wsX10)
def wsX2_showSnapshot : List Cond := .code yX2_showSnapshot cX2_showSnapshot 2 (some .int) :: ([.fieldLink RX2 22 "PhosphorHush$State" "taken" "[Z", .fieldLink RX2 12 "PhosphorHush$State" "shown" "LPhosphorHush$Screen;", .fieldLink RX2 18 "PhosphorHush$State" "slots" "[LPhosphorHush$Screen;", .fieldLink RX2 34 "PhosphorHush$Screen" "size" "I", .methodLink RX2 30 yX2_isSlot, .static yX2_isSlot, .initialized RX2, .code yX2_isSlot cX2_isSlot 1 (some .boolean), .methodLink RX2 26 yX1_copyFrom, .instanceMethod yX1_copyFrom, .selects RX1 yX1_copyFrom yX1_copyFrom, .initialized RX1, .code yX1_copyFrom cX1_copyFrom 2 none, .fieldLink RX1 9 "PhosphorHush$Screen" "phosphors" "[I", .methodLink RX1 25 arraycopyName, .native arraycopyName, .static arraycopyName, .initialized "java/lang/System", .fieldLink RX1 15 "PhosphorHush$Screen" "order" "[I", .fieldLink RX1 31 "PhosphorHush$Screen" "size" "I", .fieldLink RX1 18 "PhosphorHush$Screen" "pictures" "[J", .fieldLink RX1 22 "PhosphorHush$Screen" "settings" "[I"] ++ wsX20 ++ wsX10)
def wsX2_snapshots : List Cond := .code yX2_snapshots cX2_snapshots 3 (some .int) :: ([.fieldLink RX2 22 "PhosphorHush$State" "taken" "[Z"] ++ wsX20)
def wsX3_init : List Cond := .code yX3_init cX3_init 1 none :: ([.methodLink RX3 3 objectInit, .instanceMethod objectInit, .code objectInit ⟨#[0xb1]⟩ 1 none, .arrayClass .int, .fieldLink RX3 9 "PhosphorHush$Travel" "spots" "[I", .constant RX3 15 (49152), .fieldLink RX3 16 "PhosphorHush$Travel" "rest" "[I", .fieldLink RX3 19 "PhosphorHush$Travel" "stops" "[I"] ++ wsX30)
def wsX3_listSpots : List Cond := .code yX3_listSpots cX3_listSpots 2 none :: ([.fieldLink RX3 39 "PhosphorHush$Travel" "size" "I", .fieldLink RX3 22 "PhosphorHush$Travel" "planned" "J", .fieldLink RX3 9 "PhosphorHush$Travel" "spots" "[I", .static yX4_bit, .initialized RX4, .code yX4_bit cX4_bit 3 (some .int)] ++ wsX30)
def wsX3_travelBy : List Cond := .code yX3_travelBy cX3_travelBy 4 (some .int) :: ([.fieldLink RX3 9 "PhosphorHush$Travel" "spots" "[I", .fieldLink RX3 16 "PhosphorHush$Travel" "rest" "[I", .static yX4_way, .initialized RX4, .code yX4_way cX4_way 2 (some .int), .methodLink RX4 208 Lib.Math.abs.name, .static Lib.Math.abs.name, .initialized "java/lang/Math", .code Lib.Math.abs.name Lib.Math.abs.code 1 (some .int)] ++ wsX30)
def wsX3_bestStep : List Cond := .code yX3_bestStep cX3_bestStep 7 (some .int) :: ([.fieldLink RX3 39 "PhosphorHush$Travel" "size" "I", .methodLink RX3 53 yX3_travelBy, .instanceMethod yX3_travelBy, .selects RX3 yX3_travelBy yX3_travelBy, .initialized RX3, .code yX3_travelBy cX3_travelBy 4 (some .int), .fieldLink RX3 9 "PhosphorHush$Travel" "spots" "[I", .fieldLink RX3 16 "PhosphorHush$Travel" "rest" "[I", .static yX4_way, .initialized RX4, .code yX4_way cX4_way 2 (some .int), .methodLink RX4 208 Lib.Math.abs.name, .static Lib.Math.abs.name, .initialized "java/lang/Math", .code Lib.Math.abs.name Lib.Math.abs.code 1 (some .int)] ++ wsX30)
def wsX3_leastFrom : List Cond := .code yX3_leastFrom cX3_leastFrom 4 (some .int) :: ([.methodLink RX3 50 yX3_bestStep, .instanceMethod yX3_bestStep, .selects RX3 yX3_bestStep yX3_bestStep, .initialized RX3, .code yX3_bestStep cX3_bestStep 7 (some .int), .fieldLink RX3 39 "PhosphorHush$Travel" "size" "I", .methodLink RX3 53 yX3_travelBy, .instanceMethod yX3_travelBy, .selects RX3 yX3_travelBy yX3_travelBy, .code yX3_travelBy cX3_travelBy 4 (some .int), .fieldLink RX3 9 "PhosphorHush$Travel" "spots" "[I", .fieldLink RX3 16 "PhosphorHush$Travel" "rest" "[I", .static yX4_way, .initialized RX4, .code yX4_way cX4_way 2 (some .int), .methodLink RX4 208 Lib.Math.abs.name, .static Lib.Math.abs.name, .initialized "java/lang/Math", .code Lib.Math.abs.name Lib.Math.abs.code 1 (some .int)] ++ wsX30)
def wsX3_fillRest : List Cond := .code yX3_fillRest cX3_fillRest 3 none :: ([.fieldLink RX3 39 "PhosphorHush$Travel" "size" "I", .fieldLink RX3 16 "PhosphorHush$Travel" "rest" "[I", .fieldLink RX3 9 "PhosphorHush$Travel" "spots" "[I", .methodLink RX3 46 yX3_leastFrom, .instanceMethod yX3_leastFrom, .selects RX3 yX3_leastFrom yX3_leastFrom, .initialized RX3, .code yX3_leastFrom cX3_leastFrom 4 (some .int), .methodLink RX3 50 yX3_bestStep, .instanceMethod yX3_bestStep, .selects RX3 yX3_bestStep yX3_bestStep, .code yX3_bestStep cX3_bestStep 7 (some .int), .methodLink RX3 53 yX3_travelBy, .instanceMethod yX3_travelBy, .selects RX3 yX3_travelBy yX3_travelBy, .code yX3_travelBy cX3_travelBy 4 (some .int), .static yX4_way, .initialized RX4, .code yX4_way cX4_way 2 (some .int), .methodLink RX4 208 Lib.Math.abs.name, .static Lib.Math.abs.name, .initialized "java/lang/Math", .code Lib.Math.abs.name Lib.Math.abs.code 1 (some .int)] ++ wsX30)
def wsX3_follow : List Cond := .code yX3_follow cX3_follow 5 none :: ([.fieldLink RX3 35 "PhosphorHush$Travel" "sum" "I", .fieldLink RX3 39 "PhosphorHush$Travel" "size" "I", .fieldLink RX3 19 "PhosphorHush$Travel" "stops" "[I", .fieldLink RX3 9 "PhosphorHush$Travel" "spots" "[I", .methodLink RX3 50 yX3_bestStep, .instanceMethod yX3_bestStep, .selects RX3 yX3_bestStep yX3_bestStep, .initialized RX3, .code yX3_bestStep cX3_bestStep 7 (some .int), .methodLink RX3 53 yX3_travelBy, .instanceMethod yX3_travelBy, .selects RX3 yX3_travelBy yX3_travelBy, .code yX3_travelBy cX3_travelBy 4 (some .int), .fieldLink RX3 16 "PhosphorHush$Travel" "rest" "[I", .static yX4_way, .initialized RX4, .code yX4_way cX4_way 2 (some .int), .methodLink RX4 208 Lib.Math.abs.name, .static Lib.Math.abs.name, .initialized "java/lang/Math", .code Lib.Math.abs.name Lib.Math.abs.code 1 (some .int)] ++ wsX30)
def wsX3_plan_r1 : List Cond := [Cond.fieldLink RX3 22 "PhosphorHush$Travel" "planned" "J", Cond.methodLink RX3 26 yX3_listSpots, Cond.instanceMethod yX3_listSpots, Cond.selects RX3 yX3_listSpots yX3_listSpots, Cond.initialized RX3, Cond.code yX3_listSpots cX3_listSpots 2 none, Cond.fieldLink RX3 39 "PhosphorHush$Travel" "size" "I", Cond.fieldLink RX3 9 "PhosphorHush$Travel" "spots" "[I", Cond.static yX4_bit, Cond.initialized RX4, Cond.code yX4_bit cX4_bit 3 (some .int), Cond.methodLink RX3 29 yX3_fillRest, Cond.instanceMethod yX3_fillRest, Cond.selects RX3 yX3_fillRest yX3_fillRest, Cond.code yX3_fillRest cX3_fillRest 3 none, Cond.fieldLink RX3 16 "PhosphorHush$Travel" "rest" "[I", Cond.methodLink RX3 46 yX3_leastFrom, Cond.instanceMethod yX3_leastFrom, Cond.selects RX3 yX3_leastFrom yX3_leastFrom, Cond.code yX3_leastFrom cX3_leastFrom 4 (some .int), Cond.methodLink RX3 50 yX3_bestStep, Cond.instanceMethod yX3_bestStep, Cond.selects RX3 yX3_bestStep yX3_bestStep, Cond.code yX3_bestStep cX3_bestStep 7 (some .int)]
def wsX3_plan_r2 : List Cond := [Cond.methodLink RX3 53 yX3_travelBy, Cond.instanceMethod yX3_travelBy, Cond.selects RX3 yX3_travelBy yX3_travelBy, Cond.code yX3_travelBy cX3_travelBy 4 (some .int), Cond.static yX4_way, Cond.code yX4_way cX4_way 2 (some .int), Cond.methodLink RX4 208 Lib.Math.abs.name, Cond.static Lib.Math.abs.name, Cond.initialized "java/lang/Math", Cond.code Lib.Math.abs.name Lib.Math.abs.code 1 (some .int), Cond.methodLink RX3 32 yX3_follow, Cond.instanceMethod yX3_follow, Cond.selects RX3 yX3_follow yX3_follow, Cond.code yX3_follow cX3_follow 5 none, Cond.fieldLink RX3 35 "PhosphorHush$Travel" "sum" "I", Cond.fieldLink RX3 19 "PhosphorHush$Travel" "stops" "[I"]
def wsX3_plan : List Cond := .code yX3_plan cX3_plan 3 none :: ((wsX3_plan_r1 ++ wsX3_plan_r2) ++ wsX30)
def wsX3_sumOfWays : List Cond := .code yX3_sumOfWays cX3_sumOfWays 1 (some .int) :: ([.fieldLink RX3 35 "PhosphorHush$Travel" "sum" "I"] ++ wsX30)
def wsX3_stop : List Cond := .code yX3_stop cX3_stop 2 (some .int) :: ([.fieldLink RX3 39 "PhosphorHush$Travel" "size" "I", .fieldLink RX3 19 "PhosphorHush$Travel" "stops" "[I"] ++ wsX30)
def wsX4_init_r1 : List Cond := [Cond.methodLink RX4 1 objectInit, Cond.instanceMethod objectInit, Cond.code objectInit ⟨#[0xb1]⟩ 1 none, Cond.classLink RX4 7 RX2, Cond.instantiable RX2 3, Cond.initialized RX2, Cond.fieldLink RX4 10 "PhosphorHush" "now" "LPhosphorHush$State;", Cond.fieldLink RX4 16 "PhosphorHush" "history" "[LPhosphorHush$State;", Cond.classLink RX4 20 RX0, Cond.instantiable RX0 4, Cond.initialized RX0, Cond.fieldLink RX4 23 "PhosphorHush" "program" "LPhosphorHush$Program;", Cond.classLink RX4 27 RX3, Cond.instantiable RX3 6, Cond.initialized RX3, Cond.fieldLink RX4 30 "PhosphorHush" "travel" "LPhosphorHush$Travel;", Cond.arrayClass .int, Cond.fieldLink RX4 34 "PhosphorHush" "wrongAt" "[I", Cond.methodLink RX4 9 yX2_init, Cond.instanceMethod yX2_init, Cond.code yX2_init cX2_init 2 none, Cond.methodLink RX2 3 objectInit, Cond.classLink RX2 9 RX1, Cond.instantiable RX1 5]
def wsX4_init_r2 : List Cond := [Cond.initialized RX1, Cond.fieldLink RX2 12 "PhosphorHush$State" "shown" "LPhosphorHush$Screen;", Cond.fieldLink RX2 18 "PhosphorHush$State" "slots" "[LPhosphorHush$Screen;", Cond.arrayClass .boolean, Cond.fieldLink RX2 22 "PhosphorHush$State" "taken" "[Z", Cond.instanceMethod yX1_init, Cond.code yX1_init cX1_init 1 none, Cond.methodLink RX1 3 objectInit, Cond.fieldLink RX1 9 "PhosphorHush$Screen" "phosphors" "[I", Cond.fieldLink RX1 15 "PhosphorHush$Screen" "order" "[I", Cond.arrayClass .long, Cond.fieldLink RX1 18 "PhosphorHush$Screen" "pictures" "[J", Cond.fieldLink RX1 22 "PhosphorHush$Screen" "settings" "[I", Cond.instanceMethod yX0_init, Cond.code yX0_init cX0_init 1 none, Cond.methodLink RX0 3 objectInit, Cond.arrayClass .char, Cond.fieldLink RX0 9 "PhosphorHush$Program" "text" "[C", Cond.fieldLink RX0 15 "PhosphorHush$Program" "numbers" "[I", Cond.instanceMethod yX3_init, Cond.code yX3_init cX3_init 1 none, Cond.methodLink RX3 3 objectInit, Cond.fieldLink RX3 9 "PhosphorHush$Travel" "spots" "[I", Cond.constant RX3 15 (49152)]
def wsX4_init_r3 : List Cond := [Cond.fieldLink RX3 16 "PhosphorHush$Travel" "rest" "[I", Cond.fieldLink RX3 19 "PhosphorHush$Travel" "stops" "[I"]
def wsX4_init : List Cond := .code yX4_init cX4_init 2 none :: ((wsX4_init_r1 ++ (wsX4_init_r2 ++ wsX4_init_r3)) ++ wsX20 ++ wsX40 ++ wsX00 ++ wsX30 ++ wsX10)
def wsX4_prepare_r1 : List Cond := [Cond.fieldLink RX4 16 "PhosphorHush" "history" "[LPhosphorHush$State;", Cond.fieldLink RX4 80 "PhosphorHush" "kept" "I", Cond.fieldLink RX4 10 "PhosphorHush" "now" "LPhosphorHush$State;", Cond.methodLink RX4 84 yX2_copyFrom, Cond.instanceMethod yX2_copyFrom, Cond.selects RX2 yX2_copyFrom yX2_copyFrom, Cond.initialized RX2, Cond.code yX2_copyFrom cX2_copyFrom 3 none, Cond.fieldLink RX2 12 "PhosphorHush$State" "shown" "LPhosphorHush$Screen;", Cond.fieldLink RX2 18 "PhosphorHush$State" "slots" "[LPhosphorHush$Screen;", Cond.fieldLink RX2 22 "PhosphorHush$State" "taken" "[Z", Cond.methodLink RX2 26 yX1_copyFrom, Cond.instanceMethod yX1_copyFrom, Cond.selects RX1 yX1_copyFrom yX1_copyFrom, Cond.initialized RX1, Cond.code yX1_copyFrom cX1_copyFrom 2 none, Cond.fieldLink RX1 9 "PhosphorHush$Screen" "phosphors" "[I", Cond.methodLink RX1 25 arraycopyName, Cond.native arraycopyName, Cond.static arraycopyName, Cond.initialized "java/lang/System", Cond.fieldLink RX1 15 "PhosphorHush$Screen" "order" "[I", Cond.fieldLink RX1 31 "PhosphorHush$Screen" "size" "I", Cond.fieldLink RX1 18 "PhosphorHush$Screen" "pictures" "[J"]
def wsX4_prepare_r2 : List Cond := [Cond.fieldLink RX1 22 "PhosphorHush$Screen" "settings" "[I"]
def wsX4_prepare : List Cond := .code yX4_prepare cX4_prepare 1 none :: ((wsX4_prepare_r1 ++ wsX4_prepare_r2) ++ wsX40 ++ wsX20 ++ wsX10)
def wsX4_dropOldest : List Cond := .code yX4_dropOldest cX4_dropOldest 3 none :: ([.fieldLink RX4 16 "PhosphorHush" "history" "[LPhosphorHush$State;"] ++ wsX40)
def wsX4_finish : List Cond := .code yX4_finish cX4_finish 2 (some .int) :: ([.fieldLink RX4 80 "PhosphorHush" "kept" "I", .methodLink RX4 205 yX4_dropOldest, .instanceMethod yX4_dropOldest, .selects RX4 yX4_dropOldest yX4_dropOldest, .initialized RX4, .code yX4_dropOldest cX4_dropOldest 3 none, .fieldLink RX4 16 "PhosphorHush" "history" "[LPhosphorHush$State;"] ++ wsX40)
def wsX4_set_r1 : List Cond := [Cond.fieldLink RX4 10 "PhosphorHush" "now" "LPhosphorHush$State;", Cond.fieldLink RX4 41 "PhosphorHush$State" "shown" "LPhosphorHush$Screen;", Cond.methodLink RX4 38 yX4_prepare, Cond.instanceMethod yX4_prepare, Cond.selects RX4 yX4_prepare yX4_prepare, Cond.initialized RX4, Cond.code yX4_prepare cX4_prepare 1 none, Cond.fieldLink RX4 16 "PhosphorHush" "history" "[LPhosphorHush$State;", Cond.fieldLink RX4 80 "PhosphorHush" "kept" "I", Cond.methodLink RX4 84 yX2_copyFrom, Cond.instanceMethod yX2_copyFrom, Cond.selects RX2 yX2_copyFrom yX2_copyFrom, Cond.initialized RX2, Cond.code yX2_copyFrom cX2_copyFrom 3 none, Cond.fieldLink RX2 12 "PhosphorHush$State" "shown" "LPhosphorHush$Screen;", Cond.fieldLink RX2 18 "PhosphorHush$State" "slots" "[LPhosphorHush$Screen;", Cond.fieldLink RX2 22 "PhosphorHush$State" "taken" "[Z", Cond.methodLink RX2 26 yX1_copyFrom, Cond.instanceMethod yX1_copyFrom, Cond.selects RX1 yX1_copyFrom yX1_copyFrom, Cond.initialized RX1, Cond.code yX1_copyFrom cX1_copyFrom 2 none, Cond.fieldLink RX1 9 "PhosphorHush$Screen" "phosphors" "[I", Cond.methodLink RX1 25 arraycopyName]
def wsX4_set_r2 : List Cond := [Cond.native arraycopyName, Cond.static arraycopyName, Cond.initialized "java/lang/System", Cond.fieldLink RX1 15 "PhosphorHush$Screen" "order" "[I", Cond.fieldLink RX1 31 "PhosphorHush$Screen" "size" "I", Cond.fieldLink RX1 18 "PhosphorHush$Screen" "pictures" "[J", Cond.fieldLink RX1 22 "PhosphorHush$Screen" "settings" "[I", Cond.methodLink RX4 45 yX1_putSetting, Cond.instanceMethod yX1_putSetting, Cond.selects RX1 yX1_putSetting yX1_putSetting, Cond.code yX1_putSetting cX1_putSetting 4 (some .int), Cond.fieldLink RX1 35 "PhosphorHush$Screen" "LEAST" "[I", Cond.fieldLink RX1 38 "PhosphorHush$Screen" "MOST" "[I", Cond.methodLink RX4 51 yX4_finish, Cond.instanceMethod yX4_finish, Cond.selects RX4 yX4_finish yX4_finish, Cond.code yX4_finish cX4_finish 2 (some .int), Cond.methodLink RX4 205 yX4_dropOldest, Cond.instanceMethod yX4_dropOldest, Cond.selects RX4 yX4_dropOldest yX4_dropOldest, Cond.code yX4_dropOldest cX4_dropOldest 3 none]
def wsX4_set : List Cond := .code yX4_set cX4_set 3 (some .int) :: ((wsX4_set_r1 ++ wsX4_set_r2) ++ wsX40 ++ wsX20 ++ wsX10)
def wsX4_setPhosphor_r1 : List Cond := [Cond.fieldLink RX4 10 "PhosphorHush" "now" "LPhosphorHush$State;", Cond.fieldLink RX4 41 "PhosphorHush$State" "shown" "LPhosphorHush$Screen;", Cond.methodLink RX4 38 yX4_prepare, Cond.instanceMethod yX4_prepare, Cond.selects RX4 yX4_prepare yX4_prepare, Cond.initialized RX4, Cond.code yX4_prepare cX4_prepare 1 none, Cond.fieldLink RX4 16 "PhosphorHush" "history" "[LPhosphorHush$State;", Cond.fieldLink RX4 80 "PhosphorHush" "kept" "I", Cond.methodLink RX4 84 yX2_copyFrom, Cond.instanceMethod yX2_copyFrom, Cond.selects RX2 yX2_copyFrom yX2_copyFrom, Cond.initialized RX2, Cond.code yX2_copyFrom cX2_copyFrom 3 none, Cond.fieldLink RX2 12 "PhosphorHush$State" "shown" "LPhosphorHush$Screen;", Cond.fieldLink RX2 18 "PhosphorHush$State" "slots" "[LPhosphorHush$Screen;", Cond.fieldLink RX2 22 "PhosphorHush$State" "taken" "[Z", Cond.methodLink RX2 26 yX1_copyFrom, Cond.instanceMethod yX1_copyFrom, Cond.selects RX1 yX1_copyFrom yX1_copyFrom, Cond.initialized RX1, Cond.code yX1_copyFrom cX1_copyFrom 2 none, Cond.fieldLink RX1 9 "PhosphorHush$Screen" "phosphors" "[I", Cond.methodLink RX1 25 arraycopyName]
def wsX4_setPhosphor_r2 : List Cond := [Cond.native arraycopyName, Cond.static arraycopyName, Cond.initialized "java/lang/System", Cond.fieldLink RX1 15 "PhosphorHush$Screen" "order" "[I", Cond.fieldLink RX1 31 "PhosphorHush$Screen" "size" "I", Cond.fieldLink RX1 18 "PhosphorHush$Screen" "pictures" "[J", Cond.fieldLink RX1 22 "PhosphorHush$Screen" "settings" "[I", Cond.methodLink RX4 55 yX1_putPhosphor, Cond.instanceMethod yX1_putPhosphor, Cond.selects RX1 yX1_putPhosphor yX1_putPhosphor, Cond.code yX1_putPhosphor cX1_putPhosphor 4 (some .int), Cond.static yX4_isSpot, Cond.code yX4_isSpot cX4_isSpot 1 (some .boolean), Cond.static yX4_isPhosphor, Cond.code yX4_isPhosphor cX4_isPhosphor 1 (some .boolean), Cond.methodLink RX4 51 yX4_finish, Cond.instanceMethod yX4_finish, Cond.selects RX4 yX4_finish yX4_finish, Cond.code yX4_finish cX4_finish 2 (some .int), Cond.methodLink RX4 205 yX4_dropOldest, Cond.instanceMethod yX4_dropOldest, Cond.selects RX4 yX4_dropOldest yX4_dropOldest, Cond.code yX4_dropOldest cX4_dropOldest 3 none]
def wsX4_setPhosphor : List Cond := .code yX4_setPhosphor cX4_setPhosphor 3 (some .int) :: ((wsX4_setPhosphor_r1 ++ wsX4_setPhosphor_r2) ++ wsX40 ++ wsX20 ++ wsX10)
def wsX4_light_r1 : List Cond := [Cond.fieldLink RX4 10 "PhosphorHush" "now" "LPhosphorHush$State;", Cond.fieldLink RX4 41 "PhosphorHush$State" "shown" "LPhosphorHush$Screen;", Cond.methodLink RX4 38 yX4_prepare, Cond.instanceMethod yX4_prepare, Cond.selects RX4 yX4_prepare yX4_prepare, Cond.initialized RX4, Cond.code yX4_prepare cX4_prepare 1 none, Cond.fieldLink RX4 16 "PhosphorHush" "history" "[LPhosphorHush$State;", Cond.fieldLink RX4 80 "PhosphorHush" "kept" "I", Cond.methodLink RX4 84 yX2_copyFrom, Cond.instanceMethod yX2_copyFrom, Cond.selects RX2 yX2_copyFrom yX2_copyFrom, Cond.initialized RX2, Cond.code yX2_copyFrom cX2_copyFrom 3 none, Cond.fieldLink RX2 12 "PhosphorHush$State" "shown" "LPhosphorHush$Screen;", Cond.fieldLink RX2 18 "PhosphorHush$State" "slots" "[LPhosphorHush$Screen;", Cond.fieldLink RX2 22 "PhosphorHush$State" "taken" "[Z", Cond.methodLink RX2 26 yX1_copyFrom, Cond.instanceMethod yX1_copyFrom, Cond.selects RX1 yX1_copyFrom yX1_copyFrom, Cond.initialized RX1, Cond.code yX1_copyFrom cX1_copyFrom 2 none, Cond.fieldLink RX1 9 "PhosphorHush$Screen" "phosphors" "[I", Cond.methodLink RX1 25 arraycopyName]
def wsX4_light_r2 : List Cond := [Cond.native arraycopyName, Cond.static arraycopyName, Cond.initialized "java/lang/System", Cond.fieldLink RX1 15 "PhosphorHush$Screen" "order" "[I", Cond.fieldLink RX1 31 "PhosphorHush$Screen" "size" "I", Cond.fieldLink RX1 18 "PhosphorHush$Screen" "pictures" "[J", Cond.fieldLink RX1 22 "PhosphorHush$Screen" "settings" "[I", Cond.methodLink RX4 58 yX1_addSpot, Cond.instanceMethod yX1_addSpot, Cond.selects RX1 yX1_addSpot yX1_addSpot, Cond.code yX1_addSpot cX1_addSpot 2 (some .int), Cond.static yX4_isSpot, Cond.code yX4_isSpot cX4_isSpot 1 (some .boolean), Cond.methodLink RX1 48 yX1_positionOf, Cond.instanceMethod yX1_positionOf, Cond.selects RX1 yX1_positionOf yX1_positionOf, Cond.code yX1_positionOf cX1_positionOf 3 (some .int), Cond.methodLink RX4 51 yX4_finish, Cond.instanceMethod yX4_finish, Cond.selects RX4 yX4_finish yX4_finish, Cond.code yX4_finish cX4_finish 2 (some .int), Cond.methodLink RX4 205 yX4_dropOldest, Cond.instanceMethod yX4_dropOldest, Cond.selects RX4 yX4_dropOldest yX4_dropOldest]
def wsX4_light_r3 : List Cond := [Cond.code yX4_dropOldest cX4_dropOldest 3 none]
def wsX4_light : List Cond := .code yX4_light cX4_light 2 (some .int) :: ((wsX4_light_r1 ++ (wsX4_light_r2 ++ wsX4_light_r3)) ++ wsX40 ++ wsX20 ++ wsX10)
def wsX4_darken_r1 : List Cond := [Cond.fieldLink RX4 10 "PhosphorHush" "now" "LPhosphorHush$State;", Cond.fieldLink RX4 41 "PhosphorHush$State" "shown" "LPhosphorHush$Screen;", Cond.methodLink RX4 38 yX4_prepare, Cond.instanceMethod yX4_prepare, Cond.selects RX4 yX4_prepare yX4_prepare, Cond.initialized RX4, Cond.code yX4_prepare cX4_prepare 1 none, Cond.fieldLink RX4 16 "PhosphorHush" "history" "[LPhosphorHush$State;", Cond.fieldLink RX4 80 "PhosphorHush" "kept" "I", Cond.methodLink RX4 84 yX2_copyFrom, Cond.instanceMethod yX2_copyFrom, Cond.selects RX2 yX2_copyFrom yX2_copyFrom, Cond.initialized RX2, Cond.code yX2_copyFrom cX2_copyFrom 3 none, Cond.fieldLink RX2 12 "PhosphorHush$State" "shown" "LPhosphorHush$Screen;", Cond.fieldLink RX2 18 "PhosphorHush$State" "slots" "[LPhosphorHush$Screen;", Cond.fieldLink RX2 22 "PhosphorHush$State" "taken" "[Z", Cond.methodLink RX2 26 yX1_copyFrom, Cond.instanceMethod yX1_copyFrom, Cond.selects RX1 yX1_copyFrom yX1_copyFrom, Cond.initialized RX1, Cond.code yX1_copyFrom cX1_copyFrom 2 none, Cond.fieldLink RX1 9 "PhosphorHush$Screen" "phosphors" "[I", Cond.methodLink RX1 25 arraycopyName]
def wsX4_darken_r2 : List Cond := [Cond.native arraycopyName, Cond.static arraycopyName, Cond.initialized "java/lang/System", Cond.fieldLink RX1 15 "PhosphorHush$Screen" "order" "[I", Cond.fieldLink RX1 31 "PhosphorHush$Screen" "size" "I", Cond.fieldLink RX1 18 "PhosphorHush$Screen" "pictures" "[J", Cond.fieldLink RX1 22 "PhosphorHush$Screen" "settings" "[I", Cond.methodLink RX4 61 yX1_removeSpot, Cond.instanceMethod yX1_removeSpot, Cond.selects RX1 yX1_removeSpot yX1_removeSpot, Cond.code yX1_removeSpot cX1_removeSpot 4 (some .int), Cond.static yX4_isSpot, Cond.code yX4_isSpot cX4_isSpot 1 (some .boolean), Cond.methodLink RX1 48 yX1_positionOf, Cond.instanceMethod yX1_positionOf, Cond.selects RX1 yX1_positionOf yX1_positionOf, Cond.code yX1_positionOf cX1_positionOf 3 (some .int), Cond.methodLink RX4 51 yX4_finish, Cond.instanceMethod yX4_finish, Cond.selects RX4 yX4_finish yX4_finish, Cond.code yX4_finish cX4_finish 2 (some .int), Cond.methodLink RX4 205 yX4_dropOldest, Cond.instanceMethod yX4_dropOldest, Cond.selects RX4 yX4_dropOldest yX4_dropOldest]
def wsX4_darken_r3 : List Cond := [Cond.code yX4_dropOldest cX4_dropOldest 3 none]
def wsX4_darken : List Cond := .code yX4_darken cX4_darken 2 (some .int) :: ((wsX4_darken_r1 ++ (wsX4_darken_r2 ++ wsX4_darken_r3)) ++ wsX40 ++ wsX20 ++ wsX10)
def wsX4_exchange_r1 : List Cond := [Cond.fieldLink RX4 10 "PhosphorHush" "now" "LPhosphorHush$State;", Cond.fieldLink RX4 41 "PhosphorHush$State" "shown" "LPhosphorHush$Screen;", Cond.methodLink RX4 38 yX4_prepare, Cond.instanceMethod yX4_prepare, Cond.selects RX4 yX4_prepare yX4_prepare, Cond.initialized RX4, Cond.code yX4_prepare cX4_prepare 1 none, Cond.fieldLink RX4 16 "PhosphorHush" "history" "[LPhosphorHush$State;", Cond.fieldLink RX4 80 "PhosphorHush" "kept" "I", Cond.methodLink RX4 84 yX2_copyFrom, Cond.instanceMethod yX2_copyFrom, Cond.selects RX2 yX2_copyFrom yX2_copyFrom, Cond.initialized RX2, Cond.code yX2_copyFrom cX2_copyFrom 3 none, Cond.fieldLink RX2 12 "PhosphorHush$State" "shown" "LPhosphorHush$Screen;", Cond.fieldLink RX2 18 "PhosphorHush$State" "slots" "[LPhosphorHush$Screen;", Cond.fieldLink RX2 22 "PhosphorHush$State" "taken" "[Z", Cond.methodLink RX2 26 yX1_copyFrom, Cond.instanceMethod yX1_copyFrom, Cond.selects RX1 yX1_copyFrom yX1_copyFrom, Cond.initialized RX1, Cond.code yX1_copyFrom cX1_copyFrom 2 none, Cond.fieldLink RX1 9 "PhosphorHush$Screen" "phosphors" "[I", Cond.methodLink RX1 25 arraycopyName]
def wsX4_exchange_r2 : List Cond := [Cond.native arraycopyName, Cond.static arraycopyName, Cond.initialized "java/lang/System", Cond.fieldLink RX1 15 "PhosphorHush$Screen" "order" "[I", Cond.fieldLink RX1 31 "PhosphorHush$Screen" "size" "I", Cond.fieldLink RX1 18 "PhosphorHush$Screen" "pictures" "[J", Cond.fieldLink RX1 22 "PhosphorHush$Screen" "settings" "[I", Cond.methodLink RX4 64 yX1_swapPositions, Cond.instanceMethod yX1_swapPositions, Cond.selects RX1 yX1_swapPositions yX1_swapPositions, Cond.code yX1_swapPositions cX1_swapPositions 3 (some .int), Cond.methodLink RX1 52 yX1_swap, Cond.instanceMethod yX1_swap, Cond.selects RX1 yX1_swap yX1_swap, Cond.code yX1_swap cX1_swap 4 none, Cond.methodLink RX1 56 yX1_litSize, Cond.instanceMethod yX1_litSize, Cond.selects RX1 yX1_litSize yX1_litSize, Cond.code yX1_litSize cX1_litSize 2 (some .int), Cond.methodLink RX1 83 yX1_arrival, Cond.instanceMethod yX1_arrival, Cond.selects RX1 yX1_arrival yX1_arrival, Cond.code yX1_arrival cX1_arrival 5 (some .int), Cond.static yX4_way]
def wsX4_exchange_r3 : List Cond := [Cond.code yX4_way cX4_way 2 (some .int), Cond.methodLink RX4 208 Lib.Math.abs.name, Cond.static Lib.Math.abs.name, Cond.initialized "java/lang/Math", Cond.code Lib.Math.abs.name Lib.Math.abs.code 1 (some .int), Cond.methodLink RX4 51 yX4_finish, Cond.instanceMethod yX4_finish, Cond.selects RX4 yX4_finish yX4_finish, Cond.code yX4_finish cX4_finish 2 (some .int), Cond.methodLink RX4 205 yX4_dropOldest, Cond.instanceMethod yX4_dropOldest, Cond.selects RX4 yX4_dropOldest yX4_dropOldest, Cond.code yX4_dropOldest cX4_dropOldest 3 none]
def wsX4_exchange : List Cond := .code yX4_exchange cX4_exchange 3 (some .int) :: ((wsX4_exchange_r1 ++ (wsX4_exchange_r2 ++ wsX4_exchange_r3)) ++ wsX40 ++ wsX20 ++ wsX10)
def wsX4_sort_r1 : List Cond := [Cond.fieldLink RX4 10 "PhosphorHush" "now" "LPhosphorHush$State;", Cond.fieldLink RX4 41 "PhosphorHush$State" "shown" "LPhosphorHush$Screen;", Cond.methodLink RX4 38 yX4_prepare, Cond.instanceMethod yX4_prepare, Cond.selects RX4 yX4_prepare yX4_prepare, Cond.initialized RX4, Cond.code yX4_prepare cX4_prepare 1 none, Cond.fieldLink RX4 16 "PhosphorHush" "history" "[LPhosphorHush$State;", Cond.fieldLink RX4 80 "PhosphorHush" "kept" "I", Cond.methodLink RX4 84 yX2_copyFrom, Cond.instanceMethod yX2_copyFrom, Cond.selects RX2 yX2_copyFrom yX2_copyFrom, Cond.initialized RX2, Cond.code yX2_copyFrom cX2_copyFrom 3 none, Cond.fieldLink RX2 12 "PhosphorHush$State" "shown" "LPhosphorHush$Screen;", Cond.fieldLink RX2 18 "PhosphorHush$State" "slots" "[LPhosphorHush$Screen;", Cond.fieldLink RX2 22 "PhosphorHush$State" "taken" "[Z", Cond.methodLink RX2 26 yX1_copyFrom, Cond.instanceMethod yX1_copyFrom, Cond.selects RX1 yX1_copyFrom yX1_copyFrom, Cond.initialized RX1, Cond.code yX1_copyFrom cX1_copyFrom 2 none, Cond.fieldLink RX1 9 "PhosphorHush$Screen" "phosphors" "[I", Cond.methodLink RX1 25 arraycopyName]
def wsX4_sort_r2 : List Cond := [Cond.native arraycopyName, Cond.static arraycopyName, Cond.initialized "java/lang/System", Cond.fieldLink RX1 15 "PhosphorHush$Screen" "order" "[I", Cond.fieldLink RX1 31 "PhosphorHush$Screen" "size" "I", Cond.fieldLink RX1 18 "PhosphorHush$Screen" "pictures" "[J", Cond.fieldLink RX1 22 "PhosphorHush$Screen" "settings" "[I", Cond.methodLink RX4 67 yX1_arrange, Cond.instanceMethod yX1_arrange, Cond.selects RX1 yX1_arrange yX1_arrange, Cond.code yX1_arrange cX1_arrange 6 (some .int), Cond.methodLink RX1 60 yX1_rank, Cond.instanceMethod yX1_rank, Cond.selects RX1 yX1_rank yX1_rank, Cond.code yX1_rank cX1_rank 4 (some .int), Cond.static yX4_bit, Cond.code yX4_bit cX4_bit 3 (some .int), Cond.static yX4_way, Cond.code yX4_way cX4_way 2 (some .int), Cond.methodLink RX4 208 Lib.Math.abs.name, Cond.static Lib.Math.abs.name, Cond.initialized "java/lang/Math", Cond.code Lib.Math.abs.name Lib.Math.abs.code 1 (some .int), Cond.static yX4_ticksAbove]
def wsX4_sort_r3 : List Cond := [Cond.code yX4_ticksAbove cX4_ticksAbove 3 (some .int), Cond.methodLink RX4 211 yX4_glow, Cond.static yX4_glow, Cond.code yX4_glow cX4_glow 2 (some .int), Cond.methodLink RX4 200 Lib.Math.max.name, Cond.static Lib.Math.max.name, Cond.code Lib.Math.max.name Lib.Math.max.code 2 (some .int), Cond.methodLink RX1 52 yX1_swap, Cond.instanceMethod yX1_swap, Cond.selects RX1 yX1_swap yX1_swap, Cond.code yX1_swap cX1_swap 4 none, Cond.methodLink RX1 56 yX1_litSize, Cond.instanceMethod yX1_litSize, Cond.selects RX1 yX1_litSize yX1_litSize, Cond.code yX1_litSize cX1_litSize 2 (some .int), Cond.methodLink RX1 83 yX1_arrival, Cond.instanceMethod yX1_arrival, Cond.selects RX1 yX1_arrival yX1_arrival, Cond.code yX1_arrival cX1_arrival 5 (some .int), Cond.methodLink RX4 51 yX4_finish, Cond.instanceMethod yX4_finish, Cond.selects RX4 yX4_finish yX4_finish, Cond.code yX4_finish cX4_finish 2 (some .int), Cond.methodLink RX4 205 yX4_dropOldest]
def wsX4_sort_r4 : List Cond := [Cond.instanceMethod yX4_dropOldest, Cond.selects RX4 yX4_dropOldest yX4_dropOldest, Cond.code yX4_dropOldest cX4_dropOldest 3 none]
def wsX4_sort : List Cond := .code yX4_sort cX4_sort 2 (some .int) :: ((wsX4_sort_r1 ++ (wsX4_sort_r2 ++ (wsX4_sort_r3 ++ wsX4_sort_r4))) ++ wsX40 ++ wsX20 ++ wsX10)
def wsX4_draw_r1 : List Cond := [Cond.fieldLink RX4 10 "PhosphorHush" "now" "LPhosphorHush$State;", Cond.fieldLink RX4 41 "PhosphorHush$State" "shown" "LPhosphorHush$Screen;", Cond.methodLink RX4 38 yX4_prepare, Cond.instanceMethod yX4_prepare, Cond.selects RX4 yX4_prepare yX4_prepare, Cond.initialized RX4, Cond.code yX4_prepare cX4_prepare 1 none, Cond.fieldLink RX4 16 "PhosphorHush" "history" "[LPhosphorHush$State;", Cond.fieldLink RX4 80 "PhosphorHush" "kept" "I", Cond.methodLink RX4 84 yX2_copyFrom, Cond.instanceMethod yX2_copyFrom, Cond.selects RX2 yX2_copyFrom yX2_copyFrom, Cond.initialized RX2, Cond.code yX2_copyFrom cX2_copyFrom 3 none, Cond.fieldLink RX2 12 "PhosphorHush$State" "shown" "LPhosphorHush$Screen;", Cond.fieldLink RX2 18 "PhosphorHush$State" "slots" "[LPhosphorHush$Screen;", Cond.fieldLink RX2 22 "PhosphorHush$State" "taken" "[Z", Cond.methodLink RX2 26 yX1_copyFrom, Cond.instanceMethod yX1_copyFrom, Cond.selects RX1 yX1_copyFrom yX1_copyFrom, Cond.initialized RX1, Cond.code yX1_copyFrom cX1_copyFrom 2 none, Cond.fieldLink RX1 9 "PhosphorHush$Screen" "phosphors" "[I", Cond.methodLink RX1 25 arraycopyName]
def wsX4_draw_r2 : List Cond := [Cond.native arraycopyName, Cond.static arraycopyName, Cond.initialized "java/lang/System", Cond.fieldLink RX1 15 "PhosphorHush$Screen" "order" "[I", Cond.fieldLink RX1 31 "PhosphorHush$Screen" "size" "I", Cond.fieldLink RX1 18 "PhosphorHush$Screen" "pictures" "[J", Cond.fieldLink RX1 22 "PhosphorHush$Screen" "settings" "[I", Cond.methodLink RX4 70 yX1_paint, Cond.instanceMethod yX1_paint, Cond.selects RX1 yX1_paint yX1_paint, Cond.code yX1_paint cX1_paint 4 (some .int), Cond.constantLong RX1 75 (-1), Cond.static yX4_isSpot, Cond.code yX4_isSpot cX4_isSpot 1 (some .boolean), Cond.methodLink RX1 77 yJ13_bitCount_95d88, Cond.static yJ13_bitCount_95d88, Cond.initialized RJ13, Cond.code yJ13_bitCount_95d88 cJ13_bitCount_95d88 2 (some .int), Cond.constantLong RJ13 314 (6148914691236517205), Cond.constantLong RJ13 316 (3689348814741910323), Cond.constantLong RJ13 318 (1085102592571150095), Cond.methodLink RX4 51 yX4_finish, Cond.instanceMethod yX4_finish, Cond.selects RX4 yX4_finish yX4_finish]
def wsX4_draw_r3 : List Cond := [Cond.code yX4_finish cX4_finish 2 (some .int), Cond.methodLink RX4 205 yX4_dropOldest, Cond.instanceMethod yX4_dropOldest, Cond.selects RX4 yX4_dropOldest yX4_dropOldest, Cond.code yX4_dropOldest cX4_dropOldest 3 none]
def wsX4_draw : List Cond := .code yX4_draw cX4_draw 4 (some .int) :: ((wsX4_draw_r1 ++ (wsX4_draw_r2 ++ wsX4_draw_r3)) ++ wsX40 ++ wsX20 ++ wsX10)
def wsX4_take_r1 : List Cond := [Cond.fieldLink RX4 10 "PhosphorHush" "now" "LPhosphorHush$State;", Cond.methodLink RX4 38 yX4_prepare, Cond.instanceMethod yX4_prepare, Cond.selects RX4 yX4_prepare yX4_prepare, Cond.initialized RX4, Cond.code yX4_prepare cX4_prepare 1 none, Cond.fieldLink RX4 16 "PhosphorHush" "history" "[LPhosphorHush$State;", Cond.fieldLink RX4 80 "PhosphorHush" "kept" "I", Cond.methodLink RX4 84 yX2_copyFrom, Cond.instanceMethod yX2_copyFrom, Cond.selects RX2 yX2_copyFrom yX2_copyFrom, Cond.initialized RX2, Cond.code yX2_copyFrom cX2_copyFrom 3 none, Cond.fieldLink RX2 12 "PhosphorHush$State" "shown" "LPhosphorHush$Screen;", Cond.fieldLink RX2 18 "PhosphorHush$State" "slots" "[LPhosphorHush$Screen;", Cond.fieldLink RX2 22 "PhosphorHush$State" "taken" "[Z", Cond.methodLink RX2 26 yX1_copyFrom, Cond.instanceMethod yX1_copyFrom, Cond.selects RX1 yX1_copyFrom yX1_copyFrom, Cond.initialized RX1, Cond.code yX1_copyFrom cX1_copyFrom 2 none, Cond.fieldLink RX1 9 "PhosphorHush$Screen" "phosphors" "[I", Cond.methodLink RX1 25 arraycopyName, Cond.native arraycopyName]
def wsX4_take_r2 : List Cond := [Cond.static arraycopyName, Cond.initialized "java/lang/System", Cond.fieldLink RX1 15 "PhosphorHush$Screen" "order" "[I", Cond.fieldLink RX1 31 "PhosphorHush$Screen" "size" "I", Cond.fieldLink RX1 18 "PhosphorHush$Screen" "pictures" "[J", Cond.fieldLink RX1 22 "PhosphorHush$Screen" "settings" "[I", Cond.methodLink RX4 74 yX2_keepSnapshot, Cond.instanceMethod yX2_keepSnapshot, Cond.selects RX2 yX2_keepSnapshot yX2_keepSnapshot, Cond.code yX2_keepSnapshot cX2_keepSnapshot 2 (some .int), Cond.fieldLink RX2 34 "PhosphorHush$Screen" "size" "I", Cond.methodLink RX2 30 yX2_isSlot, Cond.static yX2_isSlot, Cond.code yX2_isSlot cX2_isSlot 1 (some .boolean), Cond.methodLink RX4 51 yX4_finish, Cond.instanceMethod yX4_finish, Cond.selects RX4 yX4_finish yX4_finish, Cond.code yX4_finish cX4_finish 2 (some .int), Cond.methodLink RX4 205 yX4_dropOldest, Cond.instanceMethod yX4_dropOldest, Cond.selects RX4 yX4_dropOldest yX4_dropOldest, Cond.code yX4_dropOldest cX4_dropOldest 3 none]
def wsX4_take : List Cond := .code yX4_take cX4_take 2 (some .int) :: ((wsX4_take_r1 ++ wsX4_take_r2) ++ wsX40 ++ wsX20 ++ wsX10)
def wsX4_restore_r1 : List Cond := [Cond.fieldLink RX4 10 "PhosphorHush" "now" "LPhosphorHush$State;", Cond.methodLink RX4 38 yX4_prepare, Cond.instanceMethod yX4_prepare, Cond.selects RX4 yX4_prepare yX4_prepare, Cond.initialized RX4, Cond.code yX4_prepare cX4_prepare 1 none, Cond.fieldLink RX4 16 "PhosphorHush" "history" "[LPhosphorHush$State;", Cond.fieldLink RX4 80 "PhosphorHush" "kept" "I", Cond.methodLink RX4 84 yX2_copyFrom, Cond.instanceMethod yX2_copyFrom, Cond.selects RX2 yX2_copyFrom yX2_copyFrom, Cond.initialized RX2, Cond.code yX2_copyFrom cX2_copyFrom 3 none, Cond.fieldLink RX2 12 "PhosphorHush$State" "shown" "LPhosphorHush$Screen;", Cond.fieldLink RX2 18 "PhosphorHush$State" "slots" "[LPhosphorHush$Screen;", Cond.fieldLink RX2 22 "PhosphorHush$State" "taken" "[Z", Cond.methodLink RX2 26 yX1_copyFrom, Cond.instanceMethod yX1_copyFrom, Cond.selects RX1 yX1_copyFrom yX1_copyFrom, Cond.initialized RX1, Cond.code yX1_copyFrom cX1_copyFrom 2 none, Cond.fieldLink RX1 9 "PhosphorHush$Screen" "phosphors" "[I", Cond.methodLink RX1 25 arraycopyName, Cond.native arraycopyName]
def wsX4_restore_r2 : List Cond := [Cond.static arraycopyName, Cond.initialized "java/lang/System", Cond.fieldLink RX1 15 "PhosphorHush$Screen" "order" "[I", Cond.fieldLink RX1 31 "PhosphorHush$Screen" "size" "I", Cond.fieldLink RX1 18 "PhosphorHush$Screen" "pictures" "[J", Cond.fieldLink RX1 22 "PhosphorHush$Screen" "settings" "[I", Cond.methodLink RX4 77 yX2_showSnapshot, Cond.instanceMethod yX2_showSnapshot, Cond.selects RX2 yX2_showSnapshot yX2_showSnapshot, Cond.code yX2_showSnapshot cX2_showSnapshot 2 (some .int), Cond.fieldLink RX2 34 "PhosphorHush$Screen" "size" "I", Cond.methodLink RX2 30 yX2_isSlot, Cond.static yX2_isSlot, Cond.code yX2_isSlot cX2_isSlot 1 (some .boolean), Cond.methodLink RX4 51 yX4_finish, Cond.instanceMethod yX4_finish, Cond.selects RX4 yX4_finish yX4_finish, Cond.code yX4_finish cX4_finish 2 (some .int), Cond.methodLink RX4 205 yX4_dropOldest, Cond.instanceMethod yX4_dropOldest, Cond.selects RX4 yX4_dropOldest yX4_dropOldest, Cond.code yX4_dropOldest cX4_dropOldest 3 none]
def wsX4_restore : List Cond := .code yX4_restore cX4_restore 2 (some .int) :: ((wsX4_restore_r1 ++ wsX4_restore_r2) ++ wsX40 ++ wsX20 ++ wsX10)
def wsX4_undo_r1 : List Cond := [Cond.fieldLink RX4 80 "PhosphorHush" "kept" "I", Cond.fieldLink RX4 10 "PhosphorHush" "now" "LPhosphorHush$State;", Cond.fieldLink RX4 16 "PhosphorHush" "history" "[LPhosphorHush$State;", Cond.methodLink RX4 84 yX2_copyFrom, Cond.instanceMethod yX2_copyFrom, Cond.selects RX2 yX2_copyFrom yX2_copyFrom, Cond.initialized RX2, Cond.code yX2_copyFrom cX2_copyFrom 3 none, Cond.fieldLink RX2 12 "PhosphorHush$State" "shown" "LPhosphorHush$Screen;", Cond.fieldLink RX2 18 "PhosphorHush$State" "slots" "[LPhosphorHush$Screen;", Cond.fieldLink RX2 22 "PhosphorHush$State" "taken" "[Z", Cond.methodLink RX2 26 yX1_copyFrom, Cond.instanceMethod yX1_copyFrom, Cond.selects RX1 yX1_copyFrom yX1_copyFrom, Cond.initialized RX1, Cond.code yX1_copyFrom cX1_copyFrom 2 none, Cond.fieldLink RX1 9 "PhosphorHush$Screen" "phosphors" "[I", Cond.methodLink RX1 25 arraycopyName, Cond.native arraycopyName, Cond.static arraycopyName, Cond.initialized "java/lang/System", Cond.fieldLink RX1 15 "PhosphorHush$Screen" "order" "[I", Cond.fieldLink RX1 31 "PhosphorHush$Screen" "size" "I", Cond.fieldLink RX1 18 "PhosphorHush$Screen" "pictures" "[J"]
def wsX4_undo_r2 : List Cond := [Cond.fieldLink RX1 22 "PhosphorHush$Screen" "settings" "[I"]
def wsX4_undo : List Cond := .code yX4_undo cX4_undo 1 (some .int) :: ((wsX4_undo_r1 ++ wsX4_undo_r2) ++ wsX40 ++ wsX20 ++ wsX10)
def wsX4_settingCount : List Cond := .code yX4_settingCount cX4_settingCount 2 (some .int) :: ([.fieldLink RX4 10 "PhosphorHush" "now" "LPhosphorHush$State;", .fieldLink RX4 41 "PhosphorHush$State" "shown" "LPhosphorHush$Screen;", .fieldLink RX4 99 "PhosphorHush$Screen" "settings" "[I"] ++ wsX40 ++ wsX20 ++ wsX10)
def wsX4_count_r1 : List Cond := [Cond.fieldLink RX4 10 "PhosphorHush" "now" "LPhosphorHush$State;", Cond.fieldLink RX4 41 "PhosphorHush$State" "shown" "LPhosphorHush$Screen;", Cond.fieldLink RX4 99 "PhosphorHush$Screen" "settings" "[I", Cond.fieldLink RX4 102 "PhosphorHush$Screen" "size" "I", Cond.fieldLink RX4 108 "PhosphorHush$Screen" "pictures" "[J", Cond.fieldLink RX4 80 "PhosphorHush" "kept" "I", Cond.fieldLink RX4 23 "PhosphorHush" "program" "LPhosphorHush$Program;", Cond.methodLink RX4 105 yX1_litSize, Cond.instanceMethod yX1_litSize, Cond.selects RX1 yX1_litSize yX1_litSize, Cond.initialized RX1, Cond.code yX1_litSize cX1_litSize 2 (some .int), Cond.fieldLink RX1 31 "PhosphorHush$Screen" "size" "I", Cond.fieldLink RX1 22 "PhosphorHush$Screen" "settings" "[I", Cond.methodLink RX1 83 yX1_arrival, Cond.instanceMethod yX1_arrival, Cond.selects RX1 yX1_arrival yX1_arrival, Cond.code yX1_arrival cX1_arrival 5 (some .int), Cond.fieldLink RX1 15 "PhosphorHush$Screen" "order" "[I", Cond.static yX4_way, Cond.initialized RX4, Cond.code yX4_way cX4_way 2 (some .int), Cond.methodLink RX4 208 Lib.Math.abs.name, Cond.static Lib.Math.abs.name]
def wsX4_count_r2 : List Cond := [Cond.initialized "java/lang/Math", Cond.code Lib.Math.abs.name Lib.Math.abs.code 1 (some .int), Cond.methodLink RX4 112 yJ13_bitCount_95d88, Cond.static yJ13_bitCount_95d88, Cond.initialized RJ13, Cond.code yJ13_bitCount_95d88 cJ13_bitCount_95d88 2 (some .int), Cond.constantLong RJ13 314 (6148914691236517205), Cond.constantLong RJ13 316 (3689348814741910323), Cond.constantLong RJ13 318 (1085102592571150095), Cond.methodLink RX4 118 yX1_seenByEye, Cond.instanceMethod yX1_seenByEye, Cond.selects RX1 yX1_seenByEye yX1_seenByEye, Cond.code yX1_seenByEye cX1_seenByEye 1 (some .long), Cond.methodLink RX1 115 yX1_seen, Cond.instanceMethod yX1_seen, Cond.selects RX1 yX1_seen yX1_seen, Cond.code yX1_seen cX1_seen 7 (some .long), Cond.methodLink RX1 98 yX1_sumOver, Cond.instanceMethod yX1_sumOver, Cond.selects RX1 yX1_sumOver yX1_sumOver, Cond.code yX1_sumOver cX1_sumOver 8 (some .int), Cond.methodLink RX1 89 yX1_litTick, Cond.instanceMethod yX1_litTick, Cond.selects RX1 yX1_litTick yX1_litTick]
def wsX4_count_r3 : List Cond := [Cond.code yX1_litTick cX1_litTick 3 (some .int), Cond.methodLink RX1 48 yX1_positionOf, Cond.instanceMethod yX1_positionOf, Cond.selects RX1 yX1_positionOf yX1_positionOf, Cond.code yX1_positionOf cX1_positionOf 3 (some .int), Cond.methodLink RX1 92 yX1_shine, Cond.instanceMethod yX1_shine, Cond.selects RX1 yX1_shine yX1_shine, Cond.code yX1_shine cX1_shine 5 (some .int), Cond.fieldLink RX1 9 "PhosphorHush$Screen" "phosphors" "[I", Cond.static yX4_glow, Cond.code yX4_glow cX4_glow 2 (some .int), Cond.methodLink RX4 200 Lib.Math.max.name, Cond.static Lib.Math.max.name, Cond.code Lib.Math.max.name Lib.Math.max.code 2 (some .int), Cond.methodLink RX1 95 yX1_next, Cond.instanceMethod yX1_next, Cond.selects RX1 yX1_next yX1_next, Cond.code yX1_next cX1_next 2 (some .int), Cond.methodLink RX1 101 yX1_mean, Cond.static yX1_mean, Cond.code yX1_mean cX1_mean 2 (some .int), Cond.methodLink RX4 122 yX1_seenByShutter, Cond.instanceMethod yX1_seenByShutter]
def wsX4_count_r4 : List Cond := [Cond.selects RX1 yX1_seenByShutter yX1_seenByShutter, Cond.code yX1_seenByShutter cX1_seenByShutter 2 (some .long), Cond.methodLink RX1 104 yX1_startInFrame, Cond.instanceMethod yX1_startInFrame, Cond.selects RX1 yX1_startInFrame yX1_startInFrame, Cond.code yX1_startInFrame cX1_startInFrame 2 (some .int), Cond.methodLink RX4 126 yX1_wrong, Cond.instanceMethod yX1_wrong, Cond.selects RX1 yX1_wrong yX1_wrong, Cond.code yX1_wrong cX1_wrong 4 (some .long), Cond.fieldLink RX1 18 "PhosphorHush$Screen" "pictures" "[J", Cond.methodLink RX4 130 yX1_sumOfWays, Cond.instanceMethod yX1_sumOfWays, Cond.selects RX1 yX1_sumOfWays yX1_sumOfWays, Cond.code yX1_sumOfWays cX1_sumOfWays 4 (some .int), Cond.methodLink RX4 133 yX1_arrival, Cond.methodLink RX4 136 yX2_snapshots, Cond.instanceMethod yX2_snapshots, Cond.selects RX2 yX2_snapshots yX2_snapshots, Cond.initialized RX2, Cond.code yX2_snapshots cX2_snapshots 3 (some .int), Cond.fieldLink RX2 22 "PhosphorHush$State" "taken" "[Z", Cond.methodLink RX4 139 yX0_size, Cond.instanceMethod yX0_size]
def wsX4_count_r5 : List Cond := [Cond.selects RX0 yX0_size yX0_size, Cond.initialized RX0, Cond.code yX0_size cX0_size 1 (some .int), Cond.fieldLink RX0 19 "PhosphorHush$Program" "length" "I", Cond.methodLink RX4 141 yX4_settingCount, Cond.instanceMethod yX4_settingCount, Cond.selects RX4 yX4_settingCount yX4_settingCount, Cond.code yX4_settingCount cX4_settingCount 2 (some .int)]
def wsX4_count : List Cond := .code yX4_count cX4_count 4 (some .int) :: ((wsX4_count_r1 ++ (wsX4_count_r2 ++ (wsX4_count_r3 ++ (wsX4_count_r4 ++ wsX4_count_r5)))) ++ wsX40 ++ wsX20 ++ wsX10 ++ wsX00)
def wsX4_spot_r1 : List Cond := [Cond.fieldLink RX4 10 "PhosphorHush" "now" "LPhosphorHush$State;", Cond.fieldLink RX4 41 "PhosphorHush$State" "shown" "LPhosphorHush$Screen;", Cond.fieldLink RX4 148 "PhosphorHush$Screen" "phosphors" "[I", Cond.fieldLink RX4 108 "PhosphorHush$Screen" "pictures" "[J", Cond.fieldLink RX4 99 "PhosphorHush$Screen" "settings" "[I", Cond.methodLink RX4 144 yX4_isSpot, Cond.static yX4_isSpot, Cond.initialized RX4, Cond.code yX4_isSpot cX4_isSpot 1 (some .boolean), Cond.methodLink RX4 151 yX4_bit, Cond.static yX4_bit, Cond.code yX4_bit cX4_bit 3 (some .int), Cond.methodLink RX4 155 yX1_positionOf, Cond.instanceMethod yX1_positionOf, Cond.selects RX1 yX1_positionOf yX1_positionOf, Cond.initialized RX1, Cond.code yX1_positionOf cX1_positionOf 3 (some .int), Cond.fieldLink RX1 31 "PhosphorHush$Screen" "size" "I", Cond.fieldLink RX1 15 "PhosphorHush$Screen" "order" "[I", Cond.methodLink RX4 158 yX1_litTick, Cond.instanceMethod yX1_litTick, Cond.selects RX1 yX1_litTick yX1_litTick, Cond.code yX1_litTick cX1_litTick 3 (some .int), Cond.fieldLink RX1 22 "PhosphorHush$Screen" "settings" "[I"]
def wsX4_spot_r2 : List Cond := [Cond.methodLink RX1 48 yX1_positionOf, Cond.methodLink RX1 83 yX1_arrival, Cond.instanceMethod yX1_arrival, Cond.selects RX1 yX1_arrival yX1_arrival, Cond.code yX1_arrival cX1_arrival 5 (some .int), Cond.static yX4_way, Cond.code yX4_way cX4_way 2 (some .int), Cond.methodLink RX4 208 Lib.Math.abs.name, Cond.static Lib.Math.abs.name, Cond.initialized "java/lang/Math", Cond.code Lib.Math.abs.name Lib.Math.abs.code 1 (some .int), Cond.methodLink RX4 118 yX1_seenByEye, Cond.instanceMethod yX1_seenByEye, Cond.selects RX1 yX1_seenByEye yX1_seenByEye, Cond.code yX1_seenByEye cX1_seenByEye 1 (some .long), Cond.methodLink RX1 115 yX1_seen, Cond.instanceMethod yX1_seen, Cond.selects RX1 yX1_seen yX1_seen, Cond.code yX1_seen cX1_seen 7 (some .long), Cond.methodLink RX1 98 yX1_sumOver, Cond.instanceMethod yX1_sumOver, Cond.selects RX1 yX1_sumOver yX1_sumOver, Cond.code yX1_sumOver cX1_sumOver 8 (some .int), Cond.methodLink RX1 89 yX1_litTick]
def wsX4_spot_r3 : List Cond := [Cond.methodLink RX1 92 yX1_shine, Cond.instanceMethod yX1_shine, Cond.selects RX1 yX1_shine yX1_shine, Cond.code yX1_shine cX1_shine 5 (some .int), Cond.fieldLink RX1 9 "PhosphorHush$Screen" "phosphors" "[I", Cond.static yX4_glow, Cond.code yX4_glow cX4_glow 2 (some .int), Cond.methodLink RX4 200 Lib.Math.max.name, Cond.static Lib.Math.max.name, Cond.code Lib.Math.max.name Lib.Math.max.code 2 (some .int), Cond.methodLink RX1 95 yX1_next, Cond.instanceMethod yX1_next, Cond.selects RX1 yX1_next yX1_next, Cond.code yX1_next cX1_next 2 (some .int), Cond.methodLink RX1 101 yX1_mean, Cond.static yX1_mean, Cond.code yX1_mean cX1_mean 2 (some .int), Cond.methodLink RX4 122 yX1_seenByShutter, Cond.instanceMethod yX1_seenByShutter, Cond.selects RX1 yX1_seenByShutter yX1_seenByShutter, Cond.code yX1_seenByShutter cX1_seenByShutter 2 (some .long), Cond.methodLink RX1 104 yX1_startInFrame, Cond.instanceMethod yX1_startInFrame, Cond.selects RX1 yX1_startInFrame yX1_startInFrame]
def wsX4_spot_r4 : List Cond := [Cond.code yX1_startInFrame cX1_startInFrame 2 (some .int), Cond.methodLink RX4 161 yX1_eyeMean, Cond.instanceMethod yX1_eyeMean, Cond.selects RX1 yX1_eyeMean yX1_eyeMean, Cond.code yX1_eyeMean cX1_eyeMean 2 (some .int), Cond.methodLink RX4 164 yX1_shutterMean, Cond.instanceMethod yX1_shutterMean, Cond.selects RX1 yX1_shutterMean yX1_shutterMean, Cond.code yX1_shutterMean cX1_shutterMean 3 (some .int), Cond.methodLink RX4 167 yX1_flicker, Cond.instanceMethod yX1_flicker, Cond.selects RX1 yX1_flicker yX1_flicker, Cond.code yX1_flicker cX1_flicker 7 (some .int), Cond.methodLink RX1 107 Lib.Math.max.name, Cond.methodLink RX1 112 Lib.Math.min.name, Cond.static Lib.Math.min.name, Cond.code Lib.Math.min.name Lib.Math.min.code 2 (some .int)]
def wsX4_spot : List Cond := .code yX4_spot cX4_spot 4 (some .int) :: ((wsX4_spot_r1 ++ (wsX4_spot_r2 ++ (wsX4_spot_r3 ++ wsX4_spot_r4))) ++ wsX40 ++ wsX20 ++ wsX10)
def wsX4_at : List Cond := .code yX4_at cX4_at 2 (some .int) :: ([.fieldLink RX4 10 "PhosphorHush" "now" "LPhosphorHush$State;", .fieldLink RX4 41 "PhosphorHush$State" "shown" "LPhosphorHush$Screen;", .fieldLink RX4 102 "PhosphorHush$Screen" "size" "I", .fieldLink RX4 170 "PhosphorHush$Screen" "order" "[I"] ++ wsX40 ++ wsX20 ++ wsX10)
def wsX4_brightness_r1 : List Cond := [Cond.fieldLink RX4 10 "PhosphorHush" "now" "LPhosphorHush$State;", Cond.fieldLink RX4 41 "PhosphorHush$State" "shown" "LPhosphorHush$Screen;", Cond.fieldLink RX4 99 "PhosphorHush$Screen" "settings" "[I", Cond.methodLink RX4 144 yX4_isSpot, Cond.static yX4_isSpot, Cond.initialized RX4, Cond.code yX4_isSpot cX4_isSpot 1 (some .boolean), Cond.methodLink RX4 158 yX1_litTick, Cond.instanceMethod yX1_litTick, Cond.selects RX1 yX1_litTick yX1_litTick, Cond.initialized RX1, Cond.code yX1_litTick cX1_litTick 3 (some .int), Cond.fieldLink RX1 22 "PhosphorHush$Screen" "settings" "[I", Cond.methodLink RX1 48 yX1_positionOf, Cond.instanceMethod yX1_positionOf, Cond.selects RX1 yX1_positionOf yX1_positionOf, Cond.code yX1_positionOf cX1_positionOf 3 (some .int), Cond.fieldLink RX1 31 "PhosphorHush$Screen" "size" "I", Cond.fieldLink RX1 15 "PhosphorHush$Screen" "order" "[I", Cond.methodLink RX1 83 yX1_arrival, Cond.instanceMethod yX1_arrival, Cond.selects RX1 yX1_arrival yX1_arrival, Cond.code yX1_arrival cX1_arrival 5 (some .int), Cond.static yX4_way]
def wsX4_brightness_r2 : List Cond := [Cond.code yX4_way cX4_way 2 (some .int), Cond.methodLink RX4 208 Lib.Math.abs.name, Cond.static Lib.Math.abs.name, Cond.initialized "java/lang/Math", Cond.code Lib.Math.abs.name Lib.Math.abs.code 1 (some .int), Cond.methodLink RX4 173 yX1_shine, Cond.instanceMethod yX1_shine, Cond.selects RX1 yX1_shine yX1_shine, Cond.code yX1_shine cX1_shine 5 (some .int), Cond.fieldLink RX1 9 "PhosphorHush$Screen" "phosphors" "[I", Cond.static yX4_glow, Cond.code yX4_glow cX4_glow 2 (some .int), Cond.methodLink RX4 200 Lib.Math.max.name, Cond.static Lib.Math.max.name, Cond.code Lib.Math.max.name Lib.Math.max.code 2 (some .int)]
def wsX4_brightness : List Cond := .code yX4_brightness cX4_brightness 4 (some .int) :: ((wsX4_brightness_r1 ++ wsX4_brightness_r2) ++ wsX40 ++ wsX20 ++ wsX10)
def wsX4_firstOf : List Cond := .code yX4_firstOf cX4_firstOf 3 (some .int) :: ([.methodLink RX4 151 yX4_bit, .static yX4_bit, .initialized RX4, .code yX4_bit cX4_bit 3 (some .int)])
def wsX4_firstWrong_r1 : List Cond := [Cond.fieldLink RX4 10 "PhosphorHush" "now" "LPhosphorHush$State;", Cond.fieldLink RX4 41 "PhosphorHush$State" "shown" "LPhosphorHush$Screen;", Cond.fieldLink RX4 99 "PhosphorHush$Screen" "settings" "[I", Cond.methodLink RX4 118 yX1_seenByEye, Cond.instanceMethod yX1_seenByEye, Cond.selects RX1 yX1_seenByEye yX1_seenByEye, Cond.initialized RX1, Cond.code yX1_seenByEye cX1_seenByEye 1 (some .long), Cond.fieldLink RX1 22 "PhosphorHush$Screen" "settings" "[I", Cond.methodLink RX1 115 yX1_seen, Cond.instanceMethod yX1_seen, Cond.selects RX1 yX1_seen yX1_seen, Cond.code yX1_seen cX1_seen 7 (some .long), Cond.fieldLink RX1 31 "PhosphorHush$Screen" "size" "I", Cond.fieldLink RX1 15 "PhosphorHush$Screen" "order" "[I", Cond.methodLink RX1 98 yX1_sumOver, Cond.instanceMethod yX1_sumOver, Cond.selects RX1 yX1_sumOver yX1_sumOver, Cond.code yX1_sumOver cX1_sumOver 8 (some .int), Cond.methodLink RX1 89 yX1_litTick, Cond.instanceMethod yX1_litTick, Cond.selects RX1 yX1_litTick yX1_litTick, Cond.code yX1_litTick cX1_litTick 3 (some .int), Cond.methodLink RX1 48 yX1_positionOf]
def wsX4_firstWrong_r2 : List Cond := [Cond.instanceMethod yX1_positionOf, Cond.selects RX1 yX1_positionOf yX1_positionOf, Cond.code yX1_positionOf cX1_positionOf 3 (some .int), Cond.methodLink RX1 83 yX1_arrival, Cond.instanceMethod yX1_arrival, Cond.selects RX1 yX1_arrival yX1_arrival, Cond.code yX1_arrival cX1_arrival 5 (some .int), Cond.static yX4_way, Cond.initialized RX4, Cond.code yX4_way cX4_way 2 (some .int), Cond.methodLink RX4 208 Lib.Math.abs.name, Cond.static Lib.Math.abs.name, Cond.initialized "java/lang/Math", Cond.code Lib.Math.abs.name Lib.Math.abs.code 1 (some .int), Cond.methodLink RX1 92 yX1_shine, Cond.instanceMethod yX1_shine, Cond.selects RX1 yX1_shine yX1_shine, Cond.code yX1_shine cX1_shine 5 (some .int), Cond.fieldLink RX1 9 "PhosphorHush$Screen" "phosphors" "[I", Cond.static yX4_glow, Cond.code yX4_glow cX4_glow 2 (some .int), Cond.methodLink RX4 200 Lib.Math.max.name, Cond.static Lib.Math.max.name, Cond.code Lib.Math.max.name Lib.Math.max.code 2 (some .int)]
def wsX4_firstWrong_r3 : List Cond := [Cond.methodLink RX1 95 yX1_next, Cond.instanceMethod yX1_next, Cond.selects RX1 yX1_next yX1_next, Cond.code yX1_next cX1_next 2 (some .int), Cond.methodLink RX1 101 yX1_mean, Cond.static yX1_mean, Cond.code yX1_mean cX1_mean 2 (some .int), Cond.methodLink RX4 126 yX1_wrong, Cond.instanceMethod yX1_wrong, Cond.selects RX1 yX1_wrong yX1_wrong, Cond.code yX1_wrong cX1_wrong 4 (some .long), Cond.fieldLink RX1 18 "PhosphorHush$Screen" "pictures" "[J", Cond.methodLink RX4 176 yX4_firstOf, Cond.static yX4_firstOf, Cond.code yX4_firstOf cX4_firstOf 3 (some .int), Cond.methodLink RX4 151 yX4_bit, Cond.static yX4_bit, Cond.code yX4_bit cX4_bit 3 (some .int), Cond.methodLink RX4 122 yX1_seenByShutter, Cond.instanceMethod yX1_seenByShutter, Cond.selects RX1 yX1_seenByShutter yX1_seenByShutter, Cond.code yX1_seenByShutter cX1_seenByShutter 2 (some .long), Cond.methodLink RX1 104 yX1_startInFrame, Cond.instanceMethod yX1_startInFrame]
def wsX4_firstWrong_r4 : List Cond := [Cond.selects RX1 yX1_startInFrame yX1_startInFrame, Cond.code yX1_startInFrame cX1_startInFrame 2 (some .int)]
def wsX4_firstWrong : List Cond := .code yX4_firstWrong cX4_firstWrong 3 (some .int) :: ((wsX4_firstWrong_r1 ++ (wsX4_firstWrong_r2 ++ (wsX4_firstWrong_r3 ++ wsX4_firstWrong_r4))) ++ wsX40 ++ wsX20 ++ wsX10)
def wsX4_bestStart_r1 : List Cond := [Cond.fieldLink RX4 10 "PhosphorHush" "now" "LPhosphorHush$State;", Cond.fieldLink RX4 41 "PhosphorHush$State" "shown" "LPhosphorHush$Screen;", Cond.fieldLink RX4 34 "PhosphorHush" "wrongAt" "[I", Cond.fieldLink RX4 99 "PhosphorHush$Screen" "settings" "[I", Cond.methodLink RX4 179 yX1_countWrong, Cond.instanceMethod yX1_countWrong, Cond.selects RX1 yX1_countWrong yX1_countWrong, Cond.initialized RX1, Cond.code yX1_countWrong cX1_countWrong 3 none, Cond.fieldLink RX1 18 "PhosphorHush$Screen" "pictures" "[J", Cond.fieldLink RX1 31 "PhosphorHush$Screen" "size" "I", Cond.fieldLink RX1 15 "PhosphorHush$Screen" "order" "[I", Cond.methodLink RX1 77 yJ13_bitCount_95d88, Cond.static yJ13_bitCount_95d88, Cond.initialized RJ13, Cond.code yJ13_bitCount_95d88 cJ13_bitCount_95d88 2 (some .int), Cond.constantLong RJ13 314 (6148914691236517205), Cond.constantLong RJ13 316 (3689348814741910323), Cond.constantLong RJ13 318 (1085102592571150095), Cond.methodLink RX1 119 yJ7_fill_53178, Cond.static yJ7_fill_53178, Cond.initialized RJ7, Cond.code yJ7_fill_53178 cJ7_fill_53178 4 none, Cond.methodLink RX1 125 yX1_countSeen]
def wsX4_bestStart_r2 : List Cond := [Cond.instanceMethod yX1_countSeen, Cond.selects RX1 yX1_countSeen yX1_countSeen, Cond.code yX1_countSeen cX1_countSeen 9 none, Cond.fieldLink RX1 22 "PhosphorHush$Screen" "settings" "[I", Cond.static yX4_bit, Cond.initialized RX4, Cond.code yX4_bit cX4_bit 3 (some .int), Cond.methodLink RX1 89 yX1_litTick, Cond.instanceMethod yX1_litTick, Cond.selects RX1 yX1_litTick yX1_litTick, Cond.code yX1_litTick cX1_litTick 3 (some .int), Cond.methodLink RX1 48 yX1_positionOf, Cond.instanceMethod yX1_positionOf, Cond.selects RX1 yX1_positionOf yX1_positionOf, Cond.code yX1_positionOf cX1_positionOf 3 (some .int), Cond.methodLink RX1 83 yX1_arrival, Cond.instanceMethod yX1_arrival, Cond.selects RX1 yX1_arrival yX1_arrival, Cond.code yX1_arrival cX1_arrival 5 (some .int), Cond.static yX4_way, Cond.code yX4_way cX4_way 2 (some .int), Cond.methodLink RX4 208 Lib.Math.abs.name, Cond.static Lib.Math.abs.name, Cond.initialized "java/lang/Math"]
def wsX4_bestStart_r3 : List Cond := [Cond.code Lib.Math.abs.name Lib.Math.abs.code 1 (some .int), Cond.methodLink RX1 98 yX1_sumOver, Cond.instanceMethod yX1_sumOver, Cond.selects RX1 yX1_sumOver yX1_sumOver, Cond.code yX1_sumOver cX1_sumOver 8 (some .int), Cond.methodLink RX1 92 yX1_shine, Cond.instanceMethod yX1_shine, Cond.selects RX1 yX1_shine yX1_shine, Cond.code yX1_shine cX1_shine 5 (some .int), Cond.fieldLink RX1 9 "PhosphorHush$Screen" "phosphors" "[I", Cond.static yX4_glow, Cond.code yX4_glow cX4_glow 2 (some .int), Cond.methodLink RX4 200 Lib.Math.max.name, Cond.static Lib.Math.max.name, Cond.code Lib.Math.max.name Lib.Math.max.code 2 (some .int), Cond.methodLink RX1 95 yX1_next, Cond.instanceMethod yX1_next, Cond.selects RX1 yX1_next yX1_next, Cond.code yX1_next cX1_next 2 (some .int), Cond.methodLink RX1 101 yX1_mean, Cond.static yX1_mean, Cond.code yX1_mean cX1_mean 2 (some .int)]
def wsX4_bestStart : List Cond := .code yX4_bestStart cX4_bestStart 4 (some .int) :: ((wsX4_bestStart_r1 ++ (wsX4_bestStart_r2 ++ wsX4_bestStart_r3)) ++ wsX40 ++ wsX20 ++ wsX10)
def wsX4_leastTravel_r1 : List Cond := [Cond.fieldLink RX4 30 "PhosphorHush" "travel" "LPhosphorHush$Travel;", Cond.fieldLink RX4 10 "PhosphorHush" "now" "LPhosphorHush$State;", Cond.fieldLink RX4 41 "PhosphorHush$State" "shown" "LPhosphorHush$Screen;", Cond.methodLink RX4 183 yX1_spotsOfOrder, Cond.instanceMethod yX1_spotsOfOrder, Cond.selects RX1 yX1_spotsOfOrder yX1_spotsOfOrder, Cond.initialized RX1, Cond.code yX1_spotsOfOrder cX1_spotsOfOrder 4 (some .long), Cond.fieldLink RX1 31 "PhosphorHush$Screen" "size" "I", Cond.fieldLink RX1 15 "PhosphorHush$Screen" "order" "[I", Cond.methodLink RX4 186 yX3_plan, Cond.instanceMethod yX3_plan, Cond.selects RX3 yX3_plan yX3_plan, Cond.initialized RX3, Cond.code yX3_plan cX3_plan 3 none, Cond.fieldLink RX3 22 "PhosphorHush$Travel" "planned" "J", Cond.methodLink RX3 26 yX3_listSpots, Cond.instanceMethod yX3_listSpots, Cond.selects RX3 yX3_listSpots yX3_listSpots, Cond.code yX3_listSpots cX3_listSpots 2 none, Cond.fieldLink RX3 39 "PhosphorHush$Travel" "size" "I", Cond.fieldLink RX3 9 "PhosphorHush$Travel" "spots" "[I", Cond.static yX4_bit, Cond.initialized RX4]
def wsX4_leastTravel_r2 : List Cond := [Cond.code yX4_bit cX4_bit 3 (some .int), Cond.methodLink RX3 29 yX3_fillRest, Cond.instanceMethod yX3_fillRest, Cond.selects RX3 yX3_fillRest yX3_fillRest, Cond.code yX3_fillRest cX3_fillRest 3 none, Cond.fieldLink RX3 16 "PhosphorHush$Travel" "rest" "[I", Cond.methodLink RX3 46 yX3_leastFrom, Cond.instanceMethod yX3_leastFrom, Cond.selects RX3 yX3_leastFrom yX3_leastFrom, Cond.code yX3_leastFrom cX3_leastFrom 4 (some .int), Cond.methodLink RX3 50 yX3_bestStep, Cond.instanceMethod yX3_bestStep, Cond.selects RX3 yX3_bestStep yX3_bestStep, Cond.code yX3_bestStep cX3_bestStep 7 (some .int), Cond.methodLink RX3 53 yX3_travelBy, Cond.instanceMethod yX3_travelBy, Cond.selects RX3 yX3_travelBy yX3_travelBy, Cond.code yX3_travelBy cX3_travelBy 4 (some .int), Cond.static yX4_way, Cond.code yX4_way cX4_way 2 (some .int), Cond.methodLink RX4 208 Lib.Math.abs.name, Cond.static Lib.Math.abs.name, Cond.initialized "java/lang/Math", Cond.code Lib.Math.abs.name Lib.Math.abs.code 1 (some .int)]
def wsX4_leastTravel_r3 : List Cond := [Cond.methodLink RX3 32 yX3_follow, Cond.instanceMethod yX3_follow, Cond.selects RX3 yX3_follow yX3_follow, Cond.code yX3_follow cX3_follow 5 none, Cond.fieldLink RX3 35 "PhosphorHush$Travel" "sum" "I", Cond.fieldLink RX3 19 "PhosphorHush$Travel" "stops" "[I", Cond.methodLink RX4 190 yX3_sumOfWays, Cond.instanceMethod yX3_sumOfWays, Cond.selects RX3 yX3_sumOfWays yX3_sumOfWays, Cond.code yX3_sumOfWays cX3_sumOfWays 1 (some .int), Cond.methodLink RX4 191 yX3_stop, Cond.instanceMethod yX3_stop, Cond.selects RX3 yX3_stop yX3_stop, Cond.code yX3_stop cX3_stop 2 (some .int)]
def wsX4_leastTravel : List Cond := .code yX4_leastTravel cX4_leastTravel 2 (some .int) :: ((wsX4_leastTravel_r1 ++ (wsX4_leastTravel_r2 ++ wsX4_leastTravel_r3)) ++ wsX40 ++ wsX20 ++ wsX10 ++ wsX30)
def wsX4_longest_r1 : List Cond := [Cond.fieldLink RX4 10 "PhosphorHush" "now" "LPhosphorHush$State;", Cond.fieldLink RX4 41 "PhosphorHush$State" "shown" "LPhosphorHush$Screen;", Cond.methodLink RX4 122 yX1_seenByShutter, Cond.instanceMethod yX1_seenByShutter, Cond.selects RX1 yX1_seenByShutter yX1_seenByShutter, Cond.initialized RX1, Cond.code yX1_seenByShutter cX1_seenByShutter 2 (some .long), Cond.fieldLink RX1 22 "PhosphorHush$Screen" "settings" "[I", Cond.methodLink RX1 104 yX1_startInFrame, Cond.instanceMethod yX1_startInFrame, Cond.selects RX1 yX1_startInFrame yX1_startInFrame, Cond.code yX1_startInFrame cX1_startInFrame 2 (some .int), Cond.methodLink RX1 115 yX1_seen, Cond.instanceMethod yX1_seen, Cond.selects RX1 yX1_seen yX1_seen, Cond.code yX1_seen cX1_seen 7 (some .long), Cond.fieldLink RX1 31 "PhosphorHush$Screen" "size" "I", Cond.fieldLink RX1 15 "PhosphorHush$Screen" "order" "[I", Cond.methodLink RX1 98 yX1_sumOver, Cond.instanceMethod yX1_sumOver, Cond.selects RX1 yX1_sumOver yX1_sumOver, Cond.code yX1_sumOver cX1_sumOver 8 (some .int), Cond.methodLink RX1 89 yX1_litTick, Cond.instanceMethod yX1_litTick]
def wsX4_longest_r2 : List Cond := [Cond.selects RX1 yX1_litTick yX1_litTick, Cond.code yX1_litTick cX1_litTick 3 (some .int), Cond.methodLink RX1 48 yX1_positionOf, Cond.instanceMethod yX1_positionOf, Cond.selects RX1 yX1_positionOf yX1_positionOf, Cond.code yX1_positionOf cX1_positionOf 3 (some .int), Cond.methodLink RX1 83 yX1_arrival, Cond.instanceMethod yX1_arrival, Cond.selects RX1 yX1_arrival yX1_arrival, Cond.code yX1_arrival cX1_arrival 5 (some .int), Cond.static yX4_way, Cond.initialized RX4, Cond.code yX4_way cX4_way 2 (some .int), Cond.methodLink RX4 208 Lib.Math.abs.name, Cond.static Lib.Math.abs.name, Cond.initialized "java/lang/Math", Cond.code Lib.Math.abs.name Lib.Math.abs.code 1 (some .int), Cond.methodLink RX1 92 yX1_shine, Cond.instanceMethod yX1_shine, Cond.selects RX1 yX1_shine yX1_shine, Cond.code yX1_shine cX1_shine 5 (some .int), Cond.fieldLink RX1 9 "PhosphorHush$Screen" "phosphors" "[I", Cond.static yX4_glow, Cond.code yX4_glow cX4_glow 2 (some .int)]
def wsX4_longest_r3 : List Cond := [Cond.methodLink RX4 200 Lib.Math.max.name, Cond.static Lib.Math.max.name, Cond.code Lib.Math.max.name Lib.Math.max.code 2 (some .int), Cond.methodLink RX1 95 yX1_next, Cond.instanceMethod yX1_next, Cond.selects RX1 yX1_next yX1_next, Cond.code yX1_next cX1_next 2 (some .int), Cond.methodLink RX1 101 yX1_mean, Cond.static yX1_mean, Cond.code yX1_mean cX1_mean 2 (some .int), Cond.methodLink RX4 126 yX1_wrong, Cond.instanceMethod yX1_wrong, Cond.selects RX1 yX1_wrong yX1_wrong, Cond.code yX1_wrong cX1_wrong 4 (some .long), Cond.fieldLink RX1 18 "PhosphorHush$Screen" "pictures" "[J"]
def wsX4_longest : List Cond := .code yX4_longest cX4_longest 2 (some .int) :: ((wsX4_longest_r1 ++ (wsX4_longest_r2 ++ wsX4_longest_r3)) ++ wsX40 ++ wsX20 ++ wsX10)
def wsX4_ticks : List Cond := .code yX4_ticks cX4_ticks 3 (some .int) :: ([.methodLink RX4 194 yX4_isPhosphor, .static yX4_isPhosphor, .initialized RX4, .code yX4_isPhosphor cX4_isPhosphor 1 (some .boolean), .methodLink RX4 197 yX4_ticksAbove, .static yX4_ticksAbove, .code yX4_ticksAbove cX4_ticksAbove 3 (some .int), .methodLink RX4 211 yX4_glow, .static yX4_glow, .code yX4_glow cX4_glow 2 (some .int), .methodLink RX4 200 Lib.Math.max.name, .static Lib.Math.max.name, .initialized "java/lang/Math", .code Lib.Math.max.name Lib.Math.max.code 2 (some .int)])
def wsX4_shortestPeriod : List Cond := .code yX4_shortestPeriod cX4_shortestPeriod 2 (some .int) :: ([.fieldLink RX4 10 "PhosphorHush" "now" "LPhosphorHush$State;", .fieldLink RX4 41 "PhosphorHush$State" "shown" "LPhosphorHush$Screen;", .fieldLink RX4 102 "PhosphorHush$Screen" "size" "I", .methodLink RX4 200 Lib.Math.max.name, .static Lib.Math.max.name, .initialized "java/lang/Math", .code Lib.Math.max.name Lib.Math.max.code 2 (some .int), .methodLink RX4 133 yX1_arrival, .instanceMethod yX1_arrival, .selects RX1 yX1_arrival yX1_arrival, .initialized RX1, .code yX1_arrival cX1_arrival 5 (some .int), .fieldLink RX1 31 "PhosphorHush$Screen" "size" "I", .fieldLink RX1 15 "PhosphorHush$Screen" "order" "[I", .fieldLink RX1 22 "PhosphorHush$Screen" "settings" "[I", .static yX4_way, .initialized RX4, .code yX4_way cX4_way 2 (some .int), .methodLink RX4 208 Lib.Math.abs.name, .static Lib.Math.abs.name, .code Lib.Math.abs.name Lib.Math.abs.code 1 (some .int)] ++ wsX40 ++ wsX20 ++ wsX10)
def wsJ9_abs_0f7a4 : List Cond := .code yJ9_abs_0f7a4 cJ9_abs_0f7a4 1 (some .int) :: ([])
def wsJ9_max_7cf53 : List Cond := .code yJ9_max_7cf53 cJ9_max_7cf53 2 (some .int) :: ([])
def wsJ9_min_7cf53 : List Cond := .code yJ9_min_7cf53 cJ9_min_7cf53 2 (some .int) :: ([])
def wsL_cell : List Cond := .code yL_cell cL_cell 2 (some .int) :: ([])
def wsL_low : List Cond := .code yL_low cL_low 2 (some .int) :: ([.constant RL 7 (2147483647)])
def wsL_digest_r1 : List Cond := [Cond.constantLong RL 8 (11), Cond.constantLong RL 10 (31), Cond.methodLink RL 12 yX4_count, Cond.instanceMethod yX4_count, Cond.selects RX4 yX4_count yX4_count, Cond.initialized RX4, Cond.code yX4_count cX4_count 4 (some .int), Cond.fieldLink RX4 10 "PhosphorHush" "now" "LPhosphorHush$State;", Cond.fieldLink RX4 41 "PhosphorHush$State" "shown" "LPhosphorHush$Screen;", Cond.fieldLink RX4 99 "PhosphorHush$Screen" "settings" "[I", Cond.fieldLink RX4 102 "PhosphorHush$Screen" "size" "I", Cond.fieldLink RX4 108 "PhosphorHush$Screen" "pictures" "[J", Cond.fieldLink RX4 80 "PhosphorHush" "kept" "I", Cond.fieldLink RX4 23 "PhosphorHush" "program" "LPhosphorHush$Program;", Cond.methodLink RX4 105 yX1_litSize, Cond.instanceMethod yX1_litSize, Cond.selects RX1 yX1_litSize yX1_litSize, Cond.initialized RX1, Cond.code yX1_litSize cX1_litSize 2 (some .int), Cond.fieldLink RX1 31 "PhosphorHush$Screen" "size" "I", Cond.fieldLink RX1 22 "PhosphorHush$Screen" "settings" "[I", Cond.methodLink RX1 83 yX1_arrival, Cond.instanceMethod yX1_arrival, Cond.selects RX1 yX1_arrival yX1_arrival]
def wsL_digest_r2 : List Cond := [Cond.code yX1_arrival cX1_arrival 5 (some .int), Cond.fieldLink RX1 15 "PhosphorHush$Screen" "order" "[I", Cond.static yX4_way, Cond.code yX4_way cX4_way 2 (some .int), Cond.methodLink RX4 208 Lib.Math.abs.name, Cond.static Lib.Math.abs.name, Cond.initialized "java/lang/Math", Cond.code Lib.Math.abs.name Lib.Math.abs.code 1 (some .int), Cond.methodLink RX4 112 yJ13_bitCount_95d88, Cond.static yJ13_bitCount_95d88, Cond.initialized RJ13, Cond.code yJ13_bitCount_95d88 cJ13_bitCount_95d88 2 (some .int), Cond.constantLong RJ13 314 (6148914691236517205), Cond.constantLong RJ13 316 (3689348814741910323), Cond.constantLong RJ13 318 (1085102592571150095), Cond.methodLink RX4 118 yX1_seenByEye, Cond.instanceMethod yX1_seenByEye, Cond.selects RX1 yX1_seenByEye yX1_seenByEye, Cond.code yX1_seenByEye cX1_seenByEye 1 (some .long), Cond.methodLink RX1 115 yX1_seen, Cond.instanceMethod yX1_seen, Cond.selects RX1 yX1_seen yX1_seen, Cond.code yX1_seen cX1_seen 7 (some .long), Cond.methodLink RX1 98 yX1_sumOver]
def wsL_digest_r3 : List Cond := [Cond.instanceMethod yX1_sumOver, Cond.selects RX1 yX1_sumOver yX1_sumOver, Cond.code yX1_sumOver cX1_sumOver 8 (some .int), Cond.methodLink RX1 89 yX1_litTick, Cond.instanceMethod yX1_litTick, Cond.selects RX1 yX1_litTick yX1_litTick, Cond.code yX1_litTick cX1_litTick 3 (some .int), Cond.methodLink RX1 48 yX1_positionOf, Cond.instanceMethod yX1_positionOf, Cond.selects RX1 yX1_positionOf yX1_positionOf, Cond.code yX1_positionOf cX1_positionOf 3 (some .int), Cond.methodLink RX1 92 yX1_shine, Cond.instanceMethod yX1_shine, Cond.selects RX1 yX1_shine yX1_shine, Cond.code yX1_shine cX1_shine 5 (some .int), Cond.fieldLink RX1 9 "PhosphorHush$Screen" "phosphors" "[I", Cond.static yX4_glow, Cond.code yX4_glow cX4_glow 2 (some .int), Cond.methodLink RX4 200 Lib.Math.max.name, Cond.static Lib.Math.max.name, Cond.code Lib.Math.max.name Lib.Math.max.code 2 (some .int), Cond.methodLink RX1 95 yX1_next, Cond.instanceMethod yX1_next, Cond.selects RX1 yX1_next yX1_next]
def wsL_digest_r4 : List Cond := [Cond.code yX1_next cX1_next 2 (some .int), Cond.methodLink RX1 101 yX1_mean, Cond.static yX1_mean, Cond.code yX1_mean cX1_mean 2 (some .int), Cond.methodLink RX4 122 yX1_seenByShutter, Cond.instanceMethod yX1_seenByShutter, Cond.selects RX1 yX1_seenByShutter yX1_seenByShutter, Cond.code yX1_seenByShutter cX1_seenByShutter 2 (some .long), Cond.methodLink RX1 104 yX1_startInFrame, Cond.instanceMethod yX1_startInFrame, Cond.selects RX1 yX1_startInFrame yX1_startInFrame, Cond.code yX1_startInFrame cX1_startInFrame 2 (some .int), Cond.methodLink RX4 126 yX1_wrong, Cond.instanceMethod yX1_wrong, Cond.selects RX1 yX1_wrong yX1_wrong, Cond.code yX1_wrong cX1_wrong 4 (some .long), Cond.fieldLink RX1 18 "PhosphorHush$Screen" "pictures" "[J", Cond.methodLink RX4 130 yX1_sumOfWays, Cond.instanceMethod yX1_sumOfWays, Cond.selects RX1 yX1_sumOfWays yX1_sumOfWays, Cond.code yX1_sumOfWays cX1_sumOfWays 4 (some .int), Cond.methodLink RX4 133 yX1_arrival, Cond.methodLink RX4 136 yX2_snapshots, Cond.instanceMethod yX2_snapshots]
def wsL_digest_r5 : List Cond := [Cond.selects RX2 yX2_snapshots yX2_snapshots, Cond.initialized RX2, Cond.code yX2_snapshots cX2_snapshots 3 (some .int), Cond.fieldLink RX2 22 "PhosphorHush$State" "taken" "[Z", Cond.methodLink RX4 139 yX0_size, Cond.instanceMethod yX0_size, Cond.selects RX0 yX0_size yX0_size, Cond.initialized RX0, Cond.code yX0_size cX0_size 1 (some .int), Cond.fieldLink RX0 19 "PhosphorHush$Program" "length" "I", Cond.methodLink RX4 141 yX4_settingCount, Cond.instanceMethod yX4_settingCount, Cond.selects RX4 yX4_settingCount yX4_settingCount, Cond.code yX4_settingCount cX4_settingCount 2 (some .int), Cond.methodLink RL 18 yX4_at, Cond.instanceMethod yX4_at, Cond.selects RX4 yX4_at yX4_at, Cond.code yX4_at cX4_at 2 (some .int), Cond.fieldLink RX4 170 "PhosphorHush$Screen" "order" "[I", Cond.methodLink RL 21 yX4_spot, Cond.instanceMethod yX4_spot, Cond.selects RX4 yX4_spot yX4_spot, Cond.code yX4_spot cX4_spot 4 (some .int), Cond.fieldLink RX4 148 "PhosphorHush$Screen" "phosphors" "[I"]
def wsL_digest_r6 : List Cond := [Cond.methodLink RX4 144 yX4_isSpot, Cond.static yX4_isSpot, Cond.code yX4_isSpot cX4_isSpot 1 (some .boolean), Cond.methodLink RX4 151 yX4_bit, Cond.static yX4_bit, Cond.code yX4_bit cX4_bit 3 (some .int), Cond.methodLink RX4 155 yX1_positionOf, Cond.methodLink RX4 158 yX1_litTick, Cond.methodLink RX4 161 yX1_eyeMean, Cond.instanceMethod yX1_eyeMean, Cond.selects RX1 yX1_eyeMean yX1_eyeMean, Cond.code yX1_eyeMean cX1_eyeMean 2 (some .int), Cond.methodLink RX4 164 yX1_shutterMean, Cond.instanceMethod yX1_shutterMean, Cond.selects RX1 yX1_shutterMean yX1_shutterMean, Cond.code yX1_shutterMean cX1_shutterMean 3 (some .int), Cond.methodLink RX4 167 yX1_flicker, Cond.instanceMethod yX1_flicker, Cond.selects RX1 yX1_flicker yX1_flicker, Cond.code yX1_flicker cX1_flicker 7 (some .int), Cond.methodLink RX1 107 Lib.Math.max.name, Cond.methodLink RX1 112 Lib.Math.min.name, Cond.static Lib.Math.min.name, Cond.code Lib.Math.min.name Lib.Math.min.code 2 (some .int)]
def wsL_digest : List Cond := .code yL_digest cL_digest 4 (some .long) :: ((wsL_digest_r1 ++ (wsL_digest_r2 ++ (wsL_digest_r3 ++ (wsL_digest_r4 ++ (wsL_digest_r5 ++ wsL_digest_r6))))) ++ wsX40 ++ wsX20 ++ wsX10 ++ wsX00)
def wsL_act_r1 : List Cond := [Cond.methodLink RL 25 yL_low, Cond.static yL_low, Cond.initialized RL, Cond.code yL_low cL_low 2 (some .int), Cond.constant RL 7 (2147483647), Cond.methodLink RL 12 yX4_count, Cond.instanceMethod yX4_count, Cond.selects RX4 yX4_count yX4_count, Cond.initialized RX4, Cond.code yX4_count cX4_count 4 (some .int), Cond.fieldLink RX4 10 "PhosphorHush" "now" "LPhosphorHush$State;", Cond.fieldLink RX4 41 "PhosphorHush$State" "shown" "LPhosphorHush$Screen;", Cond.fieldLink RX4 99 "PhosphorHush$Screen" "settings" "[I", Cond.fieldLink RX4 102 "PhosphorHush$Screen" "size" "I", Cond.fieldLink RX4 108 "PhosphorHush$Screen" "pictures" "[J", Cond.fieldLink RX4 80 "PhosphorHush" "kept" "I", Cond.fieldLink RX4 23 "PhosphorHush" "program" "LPhosphorHush$Program;", Cond.methodLink RX4 105 yX1_litSize, Cond.instanceMethod yX1_litSize, Cond.selects RX1 yX1_litSize yX1_litSize, Cond.initialized RX1, Cond.code yX1_litSize cX1_litSize 2 (some .int), Cond.fieldLink RX1 31 "PhosphorHush$Screen" "size" "I", Cond.fieldLink RX1 22 "PhosphorHush$Screen" "settings" "[I"]
def wsL_act_r2 : List Cond := [Cond.methodLink RX1 83 yX1_arrival, Cond.instanceMethod yX1_arrival, Cond.selects RX1 yX1_arrival yX1_arrival, Cond.code yX1_arrival cX1_arrival 5 (some .int), Cond.fieldLink RX1 15 "PhosphorHush$Screen" "order" "[I", Cond.static yX4_way, Cond.code yX4_way cX4_way 2 (some .int), Cond.methodLink RX4 208 Lib.Math.abs.name, Cond.static Lib.Math.abs.name, Cond.initialized "java/lang/Math", Cond.code Lib.Math.abs.name Lib.Math.abs.code 1 (some .int), Cond.methodLink RX4 112 yJ13_bitCount_95d88, Cond.static yJ13_bitCount_95d88, Cond.initialized RJ13, Cond.code yJ13_bitCount_95d88 cJ13_bitCount_95d88 2 (some .int), Cond.constantLong RJ13 314 (6148914691236517205), Cond.constantLong RJ13 316 (3689348814741910323), Cond.constantLong RJ13 318 (1085102592571150095), Cond.methodLink RX4 118 yX1_seenByEye, Cond.instanceMethod yX1_seenByEye, Cond.selects RX1 yX1_seenByEye yX1_seenByEye, Cond.code yX1_seenByEye cX1_seenByEye 1 (some .long), Cond.methodLink RX1 115 yX1_seen, Cond.instanceMethod yX1_seen]
def wsL_act_r3 : List Cond := [Cond.selects RX1 yX1_seen yX1_seen, Cond.code yX1_seen cX1_seen 7 (some .long), Cond.methodLink RX1 98 yX1_sumOver, Cond.instanceMethod yX1_sumOver, Cond.selects RX1 yX1_sumOver yX1_sumOver, Cond.code yX1_sumOver cX1_sumOver 8 (some .int), Cond.methodLink RX1 89 yX1_litTick, Cond.instanceMethod yX1_litTick, Cond.selects RX1 yX1_litTick yX1_litTick, Cond.code yX1_litTick cX1_litTick 3 (some .int), Cond.methodLink RX1 48 yX1_positionOf, Cond.instanceMethod yX1_positionOf, Cond.selects RX1 yX1_positionOf yX1_positionOf, Cond.code yX1_positionOf cX1_positionOf 3 (some .int), Cond.methodLink RX1 92 yX1_shine, Cond.instanceMethod yX1_shine, Cond.selects RX1 yX1_shine yX1_shine, Cond.code yX1_shine cX1_shine 5 (some .int), Cond.fieldLink RX1 9 "PhosphorHush$Screen" "phosphors" "[I", Cond.static yX4_glow, Cond.code yX4_glow cX4_glow 2 (some .int), Cond.methodLink RX4 200 Lib.Math.max.name, Cond.static Lib.Math.max.name, Cond.code Lib.Math.max.name Lib.Math.max.code 2 (some .int)]
def wsL_act_r4 : List Cond := [Cond.methodLink RX1 95 yX1_next, Cond.instanceMethod yX1_next, Cond.selects RX1 yX1_next yX1_next, Cond.code yX1_next cX1_next 2 (some .int), Cond.methodLink RX1 101 yX1_mean, Cond.static yX1_mean, Cond.code yX1_mean cX1_mean 2 (some .int), Cond.methodLink RX4 122 yX1_seenByShutter, Cond.instanceMethod yX1_seenByShutter, Cond.selects RX1 yX1_seenByShutter yX1_seenByShutter, Cond.code yX1_seenByShutter cX1_seenByShutter 2 (some .long), Cond.methodLink RX1 104 yX1_startInFrame, Cond.instanceMethod yX1_startInFrame, Cond.selects RX1 yX1_startInFrame yX1_startInFrame, Cond.code yX1_startInFrame cX1_startInFrame 2 (some .int), Cond.methodLink RX4 126 yX1_wrong, Cond.instanceMethod yX1_wrong, Cond.selects RX1 yX1_wrong yX1_wrong, Cond.code yX1_wrong cX1_wrong 4 (some .long), Cond.fieldLink RX1 18 "PhosphorHush$Screen" "pictures" "[J", Cond.methodLink RX4 130 yX1_sumOfWays, Cond.instanceMethod yX1_sumOfWays, Cond.selects RX1 yX1_sumOfWays yX1_sumOfWays, Cond.code yX1_sumOfWays cX1_sumOfWays 4 (some .int)]
def wsL_act_r5 : List Cond := [Cond.methodLink RX4 133 yX1_arrival, Cond.methodLink RX4 136 yX2_snapshots, Cond.instanceMethod yX2_snapshots, Cond.selects RX2 yX2_snapshots yX2_snapshots, Cond.initialized RX2, Cond.code yX2_snapshots cX2_snapshots 3 (some .int), Cond.fieldLink RX2 22 "PhosphorHush$State" "taken" "[Z", Cond.methodLink RX4 139 yX0_size, Cond.instanceMethod yX0_size, Cond.selects RX0 yX0_size yX0_size, Cond.initialized RX0, Cond.code yX0_size cX0_size 1 (some .int), Cond.fieldLink RX0 19 "PhosphorHush$Program" "length" "I", Cond.methodLink RX4 141 yX4_settingCount, Cond.instanceMethod yX4_settingCount, Cond.selects RX4 yX4_settingCount yX4_settingCount, Cond.code yX4_settingCount cX4_settingCount 2 (some .int), Cond.methodLink RL 18 yX4_at, Cond.instanceMethod yX4_at, Cond.selects RX4 yX4_at yX4_at, Cond.code yX4_at cX4_at 2 (some .int), Cond.fieldLink RX4 170 "PhosphorHush$Screen" "order" "[I", Cond.methodLink RL 30 yX4_set, Cond.instanceMethod yX4_set]
def wsL_act_r6 : List Cond := [Cond.selects RX4 yX4_set yX4_set, Cond.code yX4_set cX4_set 3 (some .int), Cond.methodLink RX4 38 yX4_prepare, Cond.instanceMethod yX4_prepare, Cond.selects RX4 yX4_prepare yX4_prepare, Cond.code yX4_prepare cX4_prepare 1 none, Cond.fieldLink RX4 16 "PhosphorHush" "history" "[LPhosphorHush$State;", Cond.methodLink RX4 84 yX2_copyFrom, Cond.instanceMethod yX2_copyFrom, Cond.selects RX2 yX2_copyFrom yX2_copyFrom, Cond.code yX2_copyFrom cX2_copyFrom 3 none, Cond.fieldLink RX2 12 "PhosphorHush$State" "shown" "LPhosphorHush$Screen;", Cond.fieldLink RX2 18 "PhosphorHush$State" "slots" "[LPhosphorHush$Screen;", Cond.methodLink RX2 26 yX1_copyFrom, Cond.instanceMethod yX1_copyFrom, Cond.selects RX1 yX1_copyFrom yX1_copyFrom, Cond.code yX1_copyFrom cX1_copyFrom 2 none, Cond.methodLink RX1 25 arraycopyName, Cond.native arraycopyName, Cond.static arraycopyName, Cond.initialized "java/lang/System", Cond.methodLink RX4 45 yX1_putSetting, Cond.instanceMethod yX1_putSetting, Cond.selects RX1 yX1_putSetting yX1_putSetting]
def wsL_act_r7 : List Cond := [Cond.code yX1_putSetting cX1_putSetting 4 (some .int), Cond.fieldLink RX1 35 "PhosphorHush$Screen" "LEAST" "[I", Cond.fieldLink RX1 38 "PhosphorHush$Screen" "MOST" "[I", Cond.methodLink RX4 51 yX4_finish, Cond.instanceMethod yX4_finish, Cond.selects RX4 yX4_finish yX4_finish, Cond.code yX4_finish cX4_finish 2 (some .int), Cond.methodLink RX4 205 yX4_dropOldest, Cond.instanceMethod yX4_dropOldest, Cond.selects RX4 yX4_dropOldest yX4_dropOldest, Cond.code yX4_dropOldest cX4_dropOldest 3 none, Cond.methodLink RL 33 yX4_setPhosphor, Cond.instanceMethod yX4_setPhosphor, Cond.selects RX4 yX4_setPhosphor yX4_setPhosphor, Cond.code yX4_setPhosphor cX4_setPhosphor 3 (some .int), Cond.methodLink RX4 55 yX1_putPhosphor, Cond.instanceMethod yX1_putPhosphor, Cond.selects RX1 yX1_putPhosphor yX1_putPhosphor, Cond.code yX1_putPhosphor cX1_putPhosphor 4 (some .int), Cond.static yX4_isSpot, Cond.code yX4_isSpot cX4_isSpot 1 (some .boolean), Cond.static yX4_isPhosphor, Cond.code yX4_isPhosphor cX4_isPhosphor 1 (some .boolean), Cond.methodLink RL 36 yX4_darken]
def wsL_act_r8 : List Cond := [Cond.instanceMethod yX4_darken, Cond.selects RX4 yX4_darken yX4_darken, Cond.code yX4_darken cX4_darken 2 (some .int), Cond.methodLink RX4 61 yX1_removeSpot, Cond.instanceMethod yX1_removeSpot, Cond.selects RX1 yX1_removeSpot yX1_removeSpot, Cond.code yX1_removeSpot cX1_removeSpot 4 (some .int), Cond.methodLink RL 39 yX4_exchange, Cond.instanceMethod yX4_exchange, Cond.selects RX4 yX4_exchange yX4_exchange, Cond.code yX4_exchange cX4_exchange 3 (some .int), Cond.methodLink RX4 64 yX1_swapPositions, Cond.instanceMethod yX1_swapPositions, Cond.selects RX1 yX1_swapPositions yX1_swapPositions, Cond.code yX1_swapPositions cX1_swapPositions 3 (some .int), Cond.methodLink RX1 52 yX1_swap, Cond.instanceMethod yX1_swap, Cond.selects RX1 yX1_swap yX1_swap, Cond.code yX1_swap cX1_swap 4 none, Cond.methodLink RX1 56 yX1_litSize, Cond.methodLink RL 42 yX4_sort, Cond.instanceMethod yX4_sort, Cond.selects RX4 yX4_sort yX4_sort, Cond.code yX4_sort cX4_sort 2 (some .int)]
def wsL_act_r9 : List Cond := [Cond.methodLink RX4 67 yX1_arrange, Cond.instanceMethod yX1_arrange, Cond.selects RX1 yX1_arrange yX1_arrange, Cond.code yX1_arrange cX1_arrange 6 (some .int), Cond.methodLink RX1 60 yX1_rank, Cond.instanceMethod yX1_rank, Cond.selects RX1 yX1_rank yX1_rank, Cond.code yX1_rank cX1_rank 4 (some .int), Cond.static yX4_bit, Cond.code yX4_bit cX4_bit 3 (some .int), Cond.static yX4_ticksAbove, Cond.code yX4_ticksAbove cX4_ticksAbove 3 (some .int), Cond.methodLink RX4 211 yX4_glow, Cond.methodLink RL 45 yX4_draw, Cond.instanceMethod yX4_draw, Cond.selects RX4 yX4_draw yX4_draw, Cond.code yX4_draw cX4_draw 4 (some .int), Cond.methodLink RX4 70 yX1_paint, Cond.instanceMethod yX1_paint, Cond.selects RX1 yX1_paint yX1_paint, Cond.code yX1_paint cX1_paint 4 (some .int), Cond.constantLong RX1 75 (-1), Cond.methodLink RX1 77 yJ13_bitCount_95d88, Cond.methodLink RL 49 yX4_take]
def wsL_act_r10 : List Cond := [Cond.instanceMethod yX4_take, Cond.selects RX4 yX4_take yX4_take, Cond.code yX4_take cX4_take 2 (some .int), Cond.methodLink RX4 74 yX2_keepSnapshot, Cond.instanceMethod yX2_keepSnapshot, Cond.selects RX2 yX2_keepSnapshot yX2_keepSnapshot, Cond.code yX2_keepSnapshot cX2_keepSnapshot 2 (some .int), Cond.fieldLink RX2 34 "PhosphorHush$Screen" "size" "I", Cond.methodLink RX2 30 yX2_isSlot, Cond.static yX2_isSlot, Cond.code yX2_isSlot cX2_isSlot 1 (some .boolean), Cond.methodLink RL 52 yX4_light, Cond.instanceMethod yX4_light, Cond.selects RX4 yX4_light yX4_light, Cond.code yX4_light cX4_light 2 (some .int), Cond.methodLink RX4 58 yX1_addSpot, Cond.instanceMethod yX1_addSpot, Cond.selects RX1 yX1_addSpot yX1_addSpot, Cond.code yX1_addSpot cX1_addSpot 2 (some .int)]
def wsL_act : List Cond := .code yL_act cL_act 5 (some .int) :: ((wsL_act_r1 ++ (wsL_act_r2 ++ (wsL_act_r3 ++ (wsL_act_r4 ++ (wsL_act_r5 ++ (wsL_act_r6 ++ (wsL_act_r7 ++ (wsL_act_r8 ++ (wsL_act_r9 ++ wsL_act_r10))))))))) ++ wsX40 ++ wsX20 ++ wsX10 ++ wsX00)
def wsL_isRow_r1 : List Cond := [Cond.methodLink RL 12 yX4_count, Cond.instanceMethod yX4_count, Cond.selects RX4 yX4_count yX4_count, Cond.initialized RX4, Cond.code yX4_count cX4_count 4 (some .int), Cond.fieldLink RX4 10 "PhosphorHush" "now" "LPhosphorHush$State;", Cond.fieldLink RX4 41 "PhosphorHush$State" "shown" "LPhosphorHush$Screen;", Cond.fieldLink RX4 99 "PhosphorHush$Screen" "settings" "[I", Cond.fieldLink RX4 102 "PhosphorHush$Screen" "size" "I", Cond.fieldLink RX4 108 "PhosphorHush$Screen" "pictures" "[J", Cond.fieldLink RX4 80 "PhosphorHush" "kept" "I", Cond.fieldLink RX4 23 "PhosphorHush" "program" "LPhosphorHush$Program;", Cond.methodLink RX4 105 yX1_litSize, Cond.instanceMethod yX1_litSize, Cond.selects RX1 yX1_litSize yX1_litSize, Cond.initialized RX1, Cond.code yX1_litSize cX1_litSize 2 (some .int), Cond.fieldLink RX1 31 "PhosphorHush$Screen" "size" "I", Cond.fieldLink RX1 22 "PhosphorHush$Screen" "settings" "[I", Cond.methodLink RX1 83 yX1_arrival, Cond.instanceMethod yX1_arrival, Cond.selects RX1 yX1_arrival yX1_arrival, Cond.code yX1_arrival cX1_arrival 5 (some .int), Cond.fieldLink RX1 15 "PhosphorHush$Screen" "order" "[I"]
def wsL_isRow_r2 : List Cond := [Cond.static yX4_way, Cond.code yX4_way cX4_way 2 (some .int), Cond.methodLink RX4 208 Lib.Math.abs.name, Cond.static Lib.Math.abs.name, Cond.initialized "java/lang/Math", Cond.code Lib.Math.abs.name Lib.Math.abs.code 1 (some .int), Cond.methodLink RX4 112 yJ13_bitCount_95d88, Cond.static yJ13_bitCount_95d88, Cond.initialized RJ13, Cond.code yJ13_bitCount_95d88 cJ13_bitCount_95d88 2 (some .int), Cond.constantLong RJ13 314 (6148914691236517205), Cond.constantLong RJ13 316 (3689348814741910323), Cond.constantLong RJ13 318 (1085102592571150095), Cond.methodLink RX4 118 yX1_seenByEye, Cond.instanceMethod yX1_seenByEye, Cond.selects RX1 yX1_seenByEye yX1_seenByEye, Cond.code yX1_seenByEye cX1_seenByEye 1 (some .long), Cond.methodLink RX1 115 yX1_seen, Cond.instanceMethod yX1_seen, Cond.selects RX1 yX1_seen yX1_seen, Cond.code yX1_seen cX1_seen 7 (some .long), Cond.methodLink RX1 98 yX1_sumOver, Cond.instanceMethod yX1_sumOver, Cond.selects RX1 yX1_sumOver yX1_sumOver]
def wsL_isRow_r3 : List Cond := [Cond.code yX1_sumOver cX1_sumOver 8 (some .int), Cond.methodLink RX1 89 yX1_litTick, Cond.instanceMethod yX1_litTick, Cond.selects RX1 yX1_litTick yX1_litTick, Cond.code yX1_litTick cX1_litTick 3 (some .int), Cond.methodLink RX1 48 yX1_positionOf, Cond.instanceMethod yX1_positionOf, Cond.selects RX1 yX1_positionOf yX1_positionOf, Cond.code yX1_positionOf cX1_positionOf 3 (some .int), Cond.methodLink RX1 92 yX1_shine, Cond.instanceMethod yX1_shine, Cond.selects RX1 yX1_shine yX1_shine, Cond.code yX1_shine cX1_shine 5 (some .int), Cond.fieldLink RX1 9 "PhosphorHush$Screen" "phosphors" "[I", Cond.static yX4_glow, Cond.code yX4_glow cX4_glow 2 (some .int), Cond.methodLink RX4 200 Lib.Math.max.name, Cond.static Lib.Math.max.name, Cond.code Lib.Math.max.name Lib.Math.max.code 2 (some .int), Cond.methodLink RX1 95 yX1_next, Cond.instanceMethod yX1_next, Cond.selects RX1 yX1_next yX1_next, Cond.code yX1_next cX1_next 2 (some .int), Cond.methodLink RX1 101 yX1_mean]
def wsL_isRow_r4 : List Cond := [Cond.static yX1_mean, Cond.code yX1_mean cX1_mean 2 (some .int), Cond.methodLink RX4 122 yX1_seenByShutter, Cond.instanceMethod yX1_seenByShutter, Cond.selects RX1 yX1_seenByShutter yX1_seenByShutter, Cond.code yX1_seenByShutter cX1_seenByShutter 2 (some .long), Cond.methodLink RX1 104 yX1_startInFrame, Cond.instanceMethod yX1_startInFrame, Cond.selects RX1 yX1_startInFrame yX1_startInFrame, Cond.code yX1_startInFrame cX1_startInFrame 2 (some .int), Cond.methodLink RX4 126 yX1_wrong, Cond.instanceMethod yX1_wrong, Cond.selects RX1 yX1_wrong yX1_wrong, Cond.code yX1_wrong cX1_wrong 4 (some .long), Cond.fieldLink RX1 18 "PhosphorHush$Screen" "pictures" "[J", Cond.methodLink RX4 130 yX1_sumOfWays, Cond.instanceMethod yX1_sumOfWays, Cond.selects RX1 yX1_sumOfWays yX1_sumOfWays, Cond.code yX1_sumOfWays cX1_sumOfWays 4 (some .int), Cond.methodLink RX4 133 yX1_arrival, Cond.methodLink RX4 136 yX2_snapshots, Cond.instanceMethod yX2_snapshots, Cond.selects RX2 yX2_snapshots yX2_snapshots, Cond.initialized RX2]
def wsL_isRow_r5 : List Cond := [Cond.code yX2_snapshots cX2_snapshots 3 (some .int), Cond.fieldLink RX2 22 "PhosphorHush$State" "taken" "[Z", Cond.methodLink RX4 139 yX0_size, Cond.instanceMethod yX0_size, Cond.selects RX0 yX0_size yX0_size, Cond.initialized RX0, Cond.code yX0_size cX0_size 1 (some .int), Cond.fieldLink RX0 19 "PhosphorHush$Program" "length" "I", Cond.methodLink RX4 141 yX4_settingCount, Cond.instanceMethod yX4_settingCount, Cond.selects RX4 yX4_settingCount yX4_settingCount, Cond.code yX4_settingCount cX4_settingCount 2 (some .int), Cond.methodLink RL 18 yX4_at, Cond.instanceMethod yX4_at, Cond.selects RX4 yX4_at yX4_at, Cond.code yX4_at cX4_at 2 (some .int), Cond.fieldLink RX4 170 "PhosphorHush$Screen" "order" "[I", Cond.methodLink RL 21 yX4_spot, Cond.instanceMethod yX4_spot, Cond.selects RX4 yX4_spot yX4_spot, Cond.code yX4_spot cX4_spot 4 (some .int), Cond.fieldLink RX4 148 "PhosphorHush$Screen" "phosphors" "[I", Cond.methodLink RX4 144 yX4_isSpot, Cond.static yX4_isSpot]
def wsL_isRow_r6 : List Cond := [Cond.code yX4_isSpot cX4_isSpot 1 (some .boolean), Cond.methodLink RX4 151 yX4_bit, Cond.static yX4_bit, Cond.code yX4_bit cX4_bit 3 (some .int), Cond.methodLink RX4 155 yX1_positionOf, Cond.methodLink RX4 158 yX1_litTick, Cond.methodLink RX4 161 yX1_eyeMean, Cond.instanceMethod yX1_eyeMean, Cond.selects RX1 yX1_eyeMean yX1_eyeMean, Cond.code yX1_eyeMean cX1_eyeMean 2 (some .int), Cond.methodLink RX4 164 yX1_shutterMean, Cond.instanceMethod yX1_shutterMean, Cond.selects RX1 yX1_shutterMean yX1_shutterMean, Cond.code yX1_shutterMean cX1_shutterMean 3 (some .int), Cond.methodLink RX4 167 yX1_flicker, Cond.instanceMethod yX1_flicker, Cond.selects RX1 yX1_flicker yX1_flicker, Cond.code yX1_flicker cX1_flicker 7 (some .int), Cond.methodLink RX1 107 Lib.Math.max.name, Cond.methodLink RX1 112 Lib.Math.min.name, Cond.static Lib.Math.min.name, Cond.code Lib.Math.min.name Lib.Math.min.code 2 (some .int), Cond.methodLink RL 55 yX4_brightness, Cond.instanceMethod yX4_brightness]
def wsL_isRow_r7 : List Cond := [Cond.selects RX4 yX4_brightness yX4_brightness, Cond.code yX4_brightness cX4_brightness 4 (some .int), Cond.methodLink RX4 173 yX1_shine]
def wsL_isRow : List Cond := .code yL_isRow cL_isRow 8 (some .boolean) :: ((wsL_isRow_r1 ++ (wsL_isRow_r2 ++ (wsL_isRow_r3 ++ (wsL_isRow_r4 ++ (wsL_isRow_r5 ++ (wsL_isRow_r6 ++ wsL_isRow_r7)))))) ++ wsX40 ++ wsX20 ++ wsX10 ++ wsX00)
def wsL_isSeen_r1 : List Cond := [Cond.methodLink RL 21 yX4_spot, Cond.instanceMethod yX4_spot, Cond.selects RX4 yX4_spot yX4_spot, Cond.initialized RX4, Cond.code yX4_spot cX4_spot 4 (some .int), Cond.fieldLink RX4 10 "PhosphorHush" "now" "LPhosphorHush$State;", Cond.fieldLink RX4 41 "PhosphorHush$State" "shown" "LPhosphorHush$Screen;", Cond.fieldLink RX4 148 "PhosphorHush$Screen" "phosphors" "[I", Cond.fieldLink RX4 108 "PhosphorHush$Screen" "pictures" "[J", Cond.fieldLink RX4 99 "PhosphorHush$Screen" "settings" "[I", Cond.methodLink RX4 144 yX4_isSpot, Cond.static yX4_isSpot, Cond.code yX4_isSpot cX4_isSpot 1 (some .boolean), Cond.methodLink RX4 151 yX4_bit, Cond.static yX4_bit, Cond.code yX4_bit cX4_bit 3 (some .int), Cond.methodLink RX4 155 yX1_positionOf, Cond.instanceMethod yX1_positionOf, Cond.selects RX1 yX1_positionOf yX1_positionOf, Cond.initialized RX1, Cond.code yX1_positionOf cX1_positionOf 3 (some .int), Cond.fieldLink RX1 31 "PhosphorHush$Screen" "size" "I", Cond.fieldLink RX1 15 "PhosphorHush$Screen" "order" "[I", Cond.methodLink RX4 158 yX1_litTick]
def wsL_isSeen_r2 : List Cond := [Cond.instanceMethod yX1_litTick, Cond.selects RX1 yX1_litTick yX1_litTick, Cond.code yX1_litTick cX1_litTick 3 (some .int), Cond.fieldLink RX1 22 "PhosphorHush$Screen" "settings" "[I", Cond.methodLink RX1 48 yX1_positionOf, Cond.methodLink RX1 83 yX1_arrival, Cond.instanceMethod yX1_arrival, Cond.selects RX1 yX1_arrival yX1_arrival, Cond.code yX1_arrival cX1_arrival 5 (some .int), Cond.static yX4_way, Cond.code yX4_way cX4_way 2 (some .int), Cond.methodLink RX4 208 Lib.Math.abs.name, Cond.static Lib.Math.abs.name, Cond.initialized "java/lang/Math", Cond.code Lib.Math.abs.name Lib.Math.abs.code 1 (some .int), Cond.methodLink RX4 118 yX1_seenByEye, Cond.instanceMethod yX1_seenByEye, Cond.selects RX1 yX1_seenByEye yX1_seenByEye, Cond.code yX1_seenByEye cX1_seenByEye 1 (some .long), Cond.methodLink RX1 115 yX1_seen, Cond.instanceMethod yX1_seen, Cond.selects RX1 yX1_seen yX1_seen, Cond.code yX1_seen cX1_seen 7 (some .long), Cond.methodLink RX1 98 yX1_sumOver]
def wsL_isSeen_r3 : List Cond := [Cond.instanceMethod yX1_sumOver, Cond.selects RX1 yX1_sumOver yX1_sumOver, Cond.code yX1_sumOver cX1_sumOver 8 (some .int), Cond.methodLink RX1 89 yX1_litTick, Cond.methodLink RX1 92 yX1_shine, Cond.instanceMethod yX1_shine, Cond.selects RX1 yX1_shine yX1_shine, Cond.code yX1_shine cX1_shine 5 (some .int), Cond.fieldLink RX1 9 "PhosphorHush$Screen" "phosphors" "[I", Cond.static yX4_glow, Cond.code yX4_glow cX4_glow 2 (some .int), Cond.methodLink RX4 200 Lib.Math.max.name, Cond.static Lib.Math.max.name, Cond.code Lib.Math.max.name Lib.Math.max.code 2 (some .int), Cond.methodLink RX1 95 yX1_next, Cond.instanceMethod yX1_next, Cond.selects RX1 yX1_next yX1_next, Cond.code yX1_next cX1_next 2 (some .int), Cond.methodLink RX1 101 yX1_mean, Cond.static yX1_mean, Cond.code yX1_mean cX1_mean 2 (some .int), Cond.methodLink RX4 122 yX1_seenByShutter, Cond.instanceMethod yX1_seenByShutter, Cond.selects RX1 yX1_seenByShutter yX1_seenByShutter]
def wsL_isSeen_r4 : List Cond := [Cond.code yX1_seenByShutter cX1_seenByShutter 2 (some .long), Cond.methodLink RX1 104 yX1_startInFrame, Cond.instanceMethod yX1_startInFrame, Cond.selects RX1 yX1_startInFrame yX1_startInFrame, Cond.code yX1_startInFrame cX1_startInFrame 2 (some .int), Cond.methodLink RX4 161 yX1_eyeMean, Cond.instanceMethod yX1_eyeMean, Cond.selects RX1 yX1_eyeMean yX1_eyeMean, Cond.code yX1_eyeMean cX1_eyeMean 2 (some .int), Cond.methodLink RX4 164 yX1_shutterMean, Cond.instanceMethod yX1_shutterMean, Cond.selects RX1 yX1_shutterMean yX1_shutterMean, Cond.code yX1_shutterMean cX1_shutterMean 3 (some .int), Cond.methodLink RX4 167 yX1_flicker, Cond.instanceMethod yX1_flicker, Cond.selects RX1 yX1_flicker yX1_flicker, Cond.code yX1_flicker cX1_flicker 7 (some .int), Cond.methodLink RX1 107 Lib.Math.max.name, Cond.methodLink RX1 112 Lib.Math.min.name, Cond.static Lib.Math.min.name, Cond.code Lib.Math.min.name Lib.Math.min.code 2 (some .int), Cond.methodLink RL 12 yX4_count, Cond.instanceMethod yX4_count, Cond.selects RX4 yX4_count yX4_count]
def wsL_isSeen_r5 : List Cond := [Cond.code yX4_count cX4_count 4 (some .int), Cond.fieldLink RX4 102 "PhosphorHush$Screen" "size" "I", Cond.fieldLink RX4 80 "PhosphorHush" "kept" "I", Cond.fieldLink RX4 23 "PhosphorHush" "program" "LPhosphorHush$Program;", Cond.methodLink RX4 105 yX1_litSize, Cond.instanceMethod yX1_litSize, Cond.selects RX1 yX1_litSize yX1_litSize, Cond.code yX1_litSize cX1_litSize 2 (some .int), Cond.methodLink RX4 112 yJ13_bitCount_95d88, Cond.static yJ13_bitCount_95d88, Cond.initialized RJ13, Cond.code yJ13_bitCount_95d88 cJ13_bitCount_95d88 2 (some .int), Cond.constantLong RJ13 314 (6148914691236517205), Cond.constantLong RJ13 316 (3689348814741910323), Cond.constantLong RJ13 318 (1085102592571150095), Cond.methodLink RX4 126 yX1_wrong, Cond.instanceMethod yX1_wrong, Cond.selects RX1 yX1_wrong yX1_wrong, Cond.code yX1_wrong cX1_wrong 4 (some .long), Cond.fieldLink RX1 18 "PhosphorHush$Screen" "pictures" "[J", Cond.methodLink RX4 130 yX1_sumOfWays, Cond.instanceMethod yX1_sumOfWays, Cond.selects RX1 yX1_sumOfWays yX1_sumOfWays, Cond.code yX1_sumOfWays cX1_sumOfWays 4 (some .int)]
def wsL_isSeen_r6 : List Cond := [Cond.methodLink RX4 133 yX1_arrival, Cond.methodLink RX4 136 yX2_snapshots, Cond.instanceMethod yX2_snapshots, Cond.selects RX2 yX2_snapshots yX2_snapshots, Cond.initialized RX2, Cond.code yX2_snapshots cX2_snapshots 3 (some .int), Cond.fieldLink RX2 22 "PhosphorHush$State" "taken" "[Z", Cond.methodLink RX4 139 yX0_size, Cond.instanceMethod yX0_size, Cond.selects RX0 yX0_size yX0_size, Cond.initialized RX0, Cond.code yX0_size cX0_size 1 (some .int), Cond.fieldLink RX0 19 "PhosphorHush$Program" "length" "I", Cond.methodLink RX4 141 yX4_settingCount, Cond.instanceMethod yX4_settingCount, Cond.selects RX4 yX4_settingCount yX4_settingCount, Cond.code yX4_settingCount cX4_settingCount 2 (some .int), Cond.methodLink RL 58 yX4_firstWrong, Cond.instanceMethod yX4_firstWrong, Cond.selects RX4 yX4_firstWrong yX4_firstWrong, Cond.code yX4_firstWrong cX4_firstWrong 3 (some .int), Cond.methodLink RX4 176 yX4_firstOf, Cond.static yX4_firstOf, Cond.code yX4_firstOf cX4_firstOf 3 (some .int)]
def wsL_isSeen : List Cond := .code yL_isSeen cL_isSeen 10 (some .boolean) :: ((wsL_isSeen_r1 ++ (wsL_isSeen_r2 ++ (wsL_isSeen_r3 ++ (wsL_isSeen_r4 ++ (wsL_isSeen_r5 ++ wsL_isSeen_r6))))) ++ wsX40 ++ wsX20 ++ wsX10 ++ wsX00)
def wsL_isMean_r1 : List Cond := [Cond.methodLink RL 12 yX4_count, Cond.instanceMethod yX4_count, Cond.selects RX4 yX4_count yX4_count, Cond.initialized RX4, Cond.code yX4_count cX4_count 4 (some .int), Cond.fieldLink RX4 10 "PhosphorHush" "now" "LPhosphorHush$State;", Cond.fieldLink RX4 41 "PhosphorHush$State" "shown" "LPhosphorHush$Screen;", Cond.fieldLink RX4 99 "PhosphorHush$Screen" "settings" "[I", Cond.fieldLink RX4 102 "PhosphorHush$Screen" "size" "I", Cond.fieldLink RX4 108 "PhosphorHush$Screen" "pictures" "[J", Cond.fieldLink RX4 80 "PhosphorHush" "kept" "I", Cond.fieldLink RX4 23 "PhosphorHush" "program" "LPhosphorHush$Program;", Cond.methodLink RX4 105 yX1_litSize, Cond.instanceMethod yX1_litSize, Cond.selects RX1 yX1_litSize yX1_litSize, Cond.initialized RX1, Cond.code yX1_litSize cX1_litSize 2 (some .int), Cond.fieldLink RX1 31 "PhosphorHush$Screen" "size" "I", Cond.fieldLink RX1 22 "PhosphorHush$Screen" "settings" "[I", Cond.methodLink RX1 83 yX1_arrival, Cond.instanceMethod yX1_arrival, Cond.selects RX1 yX1_arrival yX1_arrival, Cond.code yX1_arrival cX1_arrival 5 (some .int), Cond.fieldLink RX1 15 "PhosphorHush$Screen" "order" "[I"]
def wsL_isMean_r2 : List Cond := [Cond.static yX4_way, Cond.code yX4_way cX4_way 2 (some .int), Cond.methodLink RX4 208 Lib.Math.abs.name, Cond.static Lib.Math.abs.name, Cond.initialized "java/lang/Math", Cond.code Lib.Math.abs.name Lib.Math.abs.code 1 (some .int), Cond.methodLink RX4 112 yJ13_bitCount_95d88, Cond.static yJ13_bitCount_95d88, Cond.initialized RJ13, Cond.code yJ13_bitCount_95d88 cJ13_bitCount_95d88 2 (some .int), Cond.constantLong RJ13 314 (6148914691236517205), Cond.constantLong RJ13 316 (3689348814741910323), Cond.constantLong RJ13 318 (1085102592571150095), Cond.methodLink RX4 118 yX1_seenByEye, Cond.instanceMethod yX1_seenByEye, Cond.selects RX1 yX1_seenByEye yX1_seenByEye, Cond.code yX1_seenByEye cX1_seenByEye 1 (some .long), Cond.methodLink RX1 115 yX1_seen, Cond.instanceMethod yX1_seen, Cond.selects RX1 yX1_seen yX1_seen, Cond.code yX1_seen cX1_seen 7 (some .long), Cond.methodLink RX1 98 yX1_sumOver, Cond.instanceMethod yX1_sumOver, Cond.selects RX1 yX1_sumOver yX1_sumOver]
def wsL_isMean_r3 : List Cond := [Cond.code yX1_sumOver cX1_sumOver 8 (some .int), Cond.methodLink RX1 89 yX1_litTick, Cond.instanceMethod yX1_litTick, Cond.selects RX1 yX1_litTick yX1_litTick, Cond.code yX1_litTick cX1_litTick 3 (some .int), Cond.methodLink RX1 48 yX1_positionOf, Cond.instanceMethod yX1_positionOf, Cond.selects RX1 yX1_positionOf yX1_positionOf, Cond.code yX1_positionOf cX1_positionOf 3 (some .int), Cond.methodLink RX1 92 yX1_shine, Cond.instanceMethod yX1_shine, Cond.selects RX1 yX1_shine yX1_shine, Cond.code yX1_shine cX1_shine 5 (some .int), Cond.fieldLink RX1 9 "PhosphorHush$Screen" "phosphors" "[I", Cond.static yX4_glow, Cond.code yX4_glow cX4_glow 2 (some .int), Cond.methodLink RX4 200 Lib.Math.max.name, Cond.static Lib.Math.max.name, Cond.code Lib.Math.max.name Lib.Math.max.code 2 (some .int), Cond.methodLink RX1 95 yX1_next, Cond.instanceMethod yX1_next, Cond.selects RX1 yX1_next yX1_next, Cond.code yX1_next cX1_next 2 (some .int), Cond.methodLink RX1 101 yX1_mean]
def wsL_isMean_r4 : List Cond := [Cond.static yX1_mean, Cond.code yX1_mean cX1_mean 2 (some .int), Cond.methodLink RX4 122 yX1_seenByShutter, Cond.instanceMethod yX1_seenByShutter, Cond.selects RX1 yX1_seenByShutter yX1_seenByShutter, Cond.code yX1_seenByShutter cX1_seenByShutter 2 (some .long), Cond.methodLink RX1 104 yX1_startInFrame, Cond.instanceMethod yX1_startInFrame, Cond.selects RX1 yX1_startInFrame yX1_startInFrame, Cond.code yX1_startInFrame cX1_startInFrame 2 (some .int), Cond.methodLink RX4 126 yX1_wrong, Cond.instanceMethod yX1_wrong, Cond.selects RX1 yX1_wrong yX1_wrong, Cond.code yX1_wrong cX1_wrong 4 (some .long), Cond.fieldLink RX1 18 "PhosphorHush$Screen" "pictures" "[J", Cond.methodLink RX4 130 yX1_sumOfWays, Cond.instanceMethod yX1_sumOfWays, Cond.selects RX1 yX1_sumOfWays yX1_sumOfWays, Cond.code yX1_sumOfWays cX1_sumOfWays 4 (some .int), Cond.methodLink RX4 133 yX1_arrival, Cond.methodLink RX4 136 yX2_snapshots, Cond.instanceMethod yX2_snapshots, Cond.selects RX2 yX2_snapshots yX2_snapshots, Cond.initialized RX2]
def wsL_isMean_r5 : List Cond := [Cond.code yX2_snapshots cX2_snapshots 3 (some .int), Cond.fieldLink RX2 22 "PhosphorHush$State" "taken" "[Z", Cond.methodLink RX4 139 yX0_size, Cond.instanceMethod yX0_size, Cond.selects RX0 yX0_size yX0_size, Cond.initialized RX0, Cond.code yX0_size cX0_size 1 (some .int), Cond.fieldLink RX0 19 "PhosphorHush$Program" "length" "I", Cond.methodLink RX4 141 yX4_settingCount, Cond.instanceMethod yX4_settingCount, Cond.selects RX4 yX4_settingCount yX4_settingCount, Cond.code yX4_settingCount cX4_settingCount 2 (some .int), Cond.methodLink RL 55 yX4_brightness, Cond.instanceMethod yX4_brightness, Cond.selects RX4 yX4_brightness yX4_brightness, Cond.code yX4_brightness cX4_brightness 4 (some .int), Cond.methodLink RX4 144 yX4_isSpot, Cond.static yX4_isSpot, Cond.code yX4_isSpot cX4_isSpot 1 (some .boolean), Cond.methodLink RX4 158 yX1_litTick, Cond.methodLink RX4 173 yX1_shine, Cond.methodLink RL 21 yX4_spot, Cond.instanceMethod yX4_spot, Cond.selects RX4 yX4_spot yX4_spot]
def wsL_isMean_r6 : List Cond := [Cond.code yX4_spot cX4_spot 4 (some .int), Cond.fieldLink RX4 148 "PhosphorHush$Screen" "phosphors" "[I", Cond.methodLink RX4 151 yX4_bit, Cond.static yX4_bit, Cond.code yX4_bit cX4_bit 3 (some .int), Cond.methodLink RX4 155 yX1_positionOf, Cond.methodLink RX4 161 yX1_eyeMean, Cond.instanceMethod yX1_eyeMean, Cond.selects RX1 yX1_eyeMean yX1_eyeMean, Cond.code yX1_eyeMean cX1_eyeMean 2 (some .int), Cond.methodLink RX4 164 yX1_shutterMean, Cond.instanceMethod yX1_shutterMean, Cond.selects RX1 yX1_shutterMean yX1_shutterMean, Cond.code yX1_shutterMean cX1_shutterMean 3 (some .int), Cond.methodLink RX4 167 yX1_flicker, Cond.instanceMethod yX1_flicker, Cond.selects RX1 yX1_flicker yX1_flicker, Cond.code yX1_flicker cX1_flicker 7 (some .int), Cond.methodLink RX1 107 Lib.Math.max.name, Cond.methodLink RX1 112 Lib.Math.min.name, Cond.static Lib.Math.min.name, Cond.code Lib.Math.min.name Lib.Math.min.code 2 (some .int)]
def wsL_isMean : List Cond := .code yL_isMean cL_isMean 8 (some .boolean) :: ((wsL_isMean_r1 ++ (wsL_isMean_r2 ++ (wsL_isMean_r3 ++ (wsL_isMean_r4 ++ (wsL_isMean_r5 ++ wsL_isMean_r6))))) ++ wsX40 ++ wsX20 ++ wsX10 ++ wsX00)
def wsL_law_r1 : List Cond := [Cond.classLink RL 13 RX4, Cond.instantiable RX4 6, Cond.initialized RX4, Cond.methodLink RL 61 yX4_init, Cond.instanceMethod yX4_init, Cond.code yX4_init cX4_init 2 none, Cond.methodLink RX4 1 objectInit, Cond.instanceMethod objectInit, Cond.code objectInit ⟨#[0xb1]⟩ 1 none, Cond.classLink RX4 7 RX2, Cond.instantiable RX2 3, Cond.initialized RX2, Cond.fieldLink RX4 10 "PhosphorHush" "now" "LPhosphorHush$State;", Cond.fieldLink RX4 16 "PhosphorHush" "history" "[LPhosphorHush$State;", Cond.classLink RX4 20 RX0, Cond.instantiable RX0 4, Cond.initialized RX0, Cond.fieldLink RX4 23 "PhosphorHush" "program" "LPhosphorHush$Program;", Cond.classLink RX4 27 RX3, Cond.instantiable RX3 6, Cond.initialized RX3, Cond.fieldLink RX4 30 "PhosphorHush" "travel" "LPhosphorHush$Travel;", Cond.arrayClass .int, Cond.fieldLink RX4 34 "PhosphorHush" "wrongAt" "[I"]
def wsL_law_r2 : List Cond := [Cond.methodLink RX4 9 yX2_init, Cond.instanceMethod yX2_init, Cond.code yX2_init cX2_init 2 none, Cond.methodLink RX2 3 objectInit, Cond.classLink RX2 9 RX1, Cond.instantiable RX1 5, Cond.initialized RX1, Cond.fieldLink RX2 12 "PhosphorHush$State" "shown" "LPhosphorHush$Screen;", Cond.fieldLink RX2 18 "PhosphorHush$State" "slots" "[LPhosphorHush$Screen;", Cond.arrayClass .boolean, Cond.fieldLink RX2 22 "PhosphorHush$State" "taken" "[Z", Cond.instanceMethod yX1_init, Cond.code yX1_init cX1_init 1 none, Cond.methodLink RX1 3 objectInit, Cond.fieldLink RX1 9 "PhosphorHush$Screen" "phosphors" "[I", Cond.fieldLink RX1 15 "PhosphorHush$Screen" "order" "[I", Cond.arrayClass .long, Cond.fieldLink RX1 18 "PhosphorHush$Screen" "pictures" "[J", Cond.fieldLink RX1 22 "PhosphorHush$Screen" "settings" "[I", Cond.instanceMethod yX0_init, Cond.code yX0_init cX0_init 1 none, Cond.methodLink RX0 3 objectInit, Cond.arrayClass .char, Cond.fieldLink RX0 9 "PhosphorHush$Program" "text" "[C"]
def wsL_law_r3 : List Cond := [Cond.fieldLink RX0 15 "PhosphorHush$Program" "numbers" "[I", Cond.instanceMethod yX3_init, Cond.code yX3_init cX3_init 1 none, Cond.methodLink RX3 3 objectInit, Cond.fieldLink RX3 9 "PhosphorHush$Travel" "spots" "[I", Cond.constant RX3 15 (49152), Cond.fieldLink RX3 16 "PhosphorHush$Travel" "rest" "[I", Cond.fieldLink RX3 19 "PhosphorHush$Travel" "stops" "[I", Cond.methodLink RL 62 yL_cell, Cond.static yL_cell, Cond.initialized RL, Cond.code yL_cell cL_cell 2 (some .int), Cond.methodLink RL 25 yL_low, Cond.static yL_low, Cond.code yL_low cL_low 2 (some .int), Cond.constant RL 7 (2147483647), Cond.methodLink RL 52 yX4_light, Cond.instanceMethod yX4_light, Cond.selects RX4 yX4_light yX4_light, Cond.code yX4_light cX4_light 2 (some .int), Cond.fieldLink RX4 41 "PhosphorHush$State" "shown" "LPhosphorHush$Screen;", Cond.methodLink RX4 38 yX4_prepare, Cond.instanceMethod yX4_prepare, Cond.selects RX4 yX4_prepare yX4_prepare]
def wsL_law_r4 : List Cond := [Cond.code yX4_prepare cX4_prepare 1 none, Cond.fieldLink RX4 80 "PhosphorHush" "kept" "I", Cond.methodLink RX4 84 yX2_copyFrom, Cond.instanceMethod yX2_copyFrom, Cond.selects RX2 yX2_copyFrom yX2_copyFrom, Cond.code yX2_copyFrom cX2_copyFrom 3 none, Cond.methodLink RX2 26 yX1_copyFrom, Cond.instanceMethod yX1_copyFrom, Cond.selects RX1 yX1_copyFrom yX1_copyFrom, Cond.code yX1_copyFrom cX1_copyFrom 2 none, Cond.methodLink RX1 25 arraycopyName, Cond.native arraycopyName, Cond.static arraycopyName, Cond.initialized "java/lang/System", Cond.fieldLink RX1 31 "PhosphorHush$Screen" "size" "I", Cond.methodLink RX4 58 yX1_addSpot, Cond.instanceMethod yX1_addSpot, Cond.selects RX1 yX1_addSpot yX1_addSpot, Cond.code yX1_addSpot cX1_addSpot 2 (some .int), Cond.static yX4_isSpot, Cond.code yX4_isSpot cX4_isSpot 1 (some .boolean), Cond.methodLink RX1 48 yX1_positionOf, Cond.instanceMethod yX1_positionOf, Cond.selects RX1 yX1_positionOf yX1_positionOf]
def wsL_law_r5 : List Cond := [Cond.code yX1_positionOf cX1_positionOf 3 (some .int), Cond.methodLink RX4 51 yX4_finish, Cond.instanceMethod yX4_finish, Cond.selects RX4 yX4_finish yX4_finish, Cond.code yX4_finish cX4_finish 2 (some .int), Cond.methodLink RX4 205 yX4_dropOldest, Cond.instanceMethod yX4_dropOldest, Cond.selects RX4 yX4_dropOldest yX4_dropOldest, Cond.code yX4_dropOldest cX4_dropOldest 3 none, Cond.methodLink RL 66 yL_digest, Cond.static yL_digest, Cond.code yL_digest cL_digest 4 (some .long), Cond.constantLong RL 8 (11), Cond.constantLong RL 10 (31), Cond.methodLink RL 12 yX4_count, Cond.instanceMethod yX4_count, Cond.selects RX4 yX4_count yX4_count, Cond.code yX4_count cX4_count 4 (some .int), Cond.fieldLink RX4 99 "PhosphorHush$Screen" "settings" "[I", Cond.fieldLink RX4 102 "PhosphorHush$Screen" "size" "I", Cond.fieldLink RX4 108 "PhosphorHush$Screen" "pictures" "[J", Cond.methodLink RX4 105 yX1_litSize, Cond.instanceMethod yX1_litSize, Cond.selects RX1 yX1_litSize yX1_litSize]
def wsL_law_r6 : List Cond := [Cond.code yX1_litSize cX1_litSize 2 (some .int), Cond.methodLink RX1 83 yX1_arrival, Cond.instanceMethod yX1_arrival, Cond.selects RX1 yX1_arrival yX1_arrival, Cond.code yX1_arrival cX1_arrival 5 (some .int), Cond.static yX4_way, Cond.code yX4_way cX4_way 2 (some .int), Cond.methodLink RX4 208 Lib.Math.abs.name, Cond.static Lib.Math.abs.name, Cond.initialized "java/lang/Math", Cond.code Lib.Math.abs.name Lib.Math.abs.code 1 (some .int), Cond.methodLink RX4 112 yJ13_bitCount_95d88, Cond.static yJ13_bitCount_95d88, Cond.initialized RJ13, Cond.code yJ13_bitCount_95d88 cJ13_bitCount_95d88 2 (some .int), Cond.constantLong RJ13 314 (6148914691236517205), Cond.constantLong RJ13 316 (3689348814741910323), Cond.constantLong RJ13 318 (1085102592571150095), Cond.methodLink RX4 118 yX1_seenByEye, Cond.instanceMethod yX1_seenByEye, Cond.selects RX1 yX1_seenByEye yX1_seenByEye, Cond.code yX1_seenByEye cX1_seenByEye 1 (some .long), Cond.methodLink RX1 115 yX1_seen, Cond.instanceMethod yX1_seen]
def wsL_law_r7 : List Cond := [Cond.selects RX1 yX1_seen yX1_seen, Cond.code yX1_seen cX1_seen 7 (some .long), Cond.methodLink RX1 98 yX1_sumOver, Cond.instanceMethod yX1_sumOver, Cond.selects RX1 yX1_sumOver yX1_sumOver, Cond.code yX1_sumOver cX1_sumOver 8 (some .int), Cond.methodLink RX1 89 yX1_litTick, Cond.instanceMethod yX1_litTick, Cond.selects RX1 yX1_litTick yX1_litTick, Cond.code yX1_litTick cX1_litTick 3 (some .int), Cond.methodLink RX1 92 yX1_shine, Cond.instanceMethod yX1_shine, Cond.selects RX1 yX1_shine yX1_shine, Cond.code yX1_shine cX1_shine 5 (some .int), Cond.static yX4_glow, Cond.code yX4_glow cX4_glow 2 (some .int), Cond.methodLink RX4 200 Lib.Math.max.name, Cond.static Lib.Math.max.name, Cond.code Lib.Math.max.name Lib.Math.max.code 2 (some .int), Cond.methodLink RX1 95 yX1_next, Cond.instanceMethod yX1_next, Cond.selects RX1 yX1_next yX1_next, Cond.code yX1_next cX1_next 2 (some .int), Cond.methodLink RX1 101 yX1_mean]
def wsL_law_r8 : List Cond := [Cond.static yX1_mean, Cond.code yX1_mean cX1_mean 2 (some .int), Cond.methodLink RX4 122 yX1_seenByShutter, Cond.instanceMethod yX1_seenByShutter, Cond.selects RX1 yX1_seenByShutter yX1_seenByShutter, Cond.code yX1_seenByShutter cX1_seenByShutter 2 (some .long), Cond.methodLink RX1 104 yX1_startInFrame, Cond.instanceMethod yX1_startInFrame, Cond.selects RX1 yX1_startInFrame yX1_startInFrame, Cond.code yX1_startInFrame cX1_startInFrame 2 (some .int), Cond.methodLink RX4 126 yX1_wrong, Cond.instanceMethod yX1_wrong, Cond.selects RX1 yX1_wrong yX1_wrong, Cond.code yX1_wrong cX1_wrong 4 (some .long), Cond.methodLink RX4 130 yX1_sumOfWays, Cond.instanceMethod yX1_sumOfWays, Cond.selects RX1 yX1_sumOfWays yX1_sumOfWays, Cond.code yX1_sumOfWays cX1_sumOfWays 4 (some .int), Cond.methodLink RX4 133 yX1_arrival, Cond.methodLink RX4 136 yX2_snapshots, Cond.instanceMethod yX2_snapshots, Cond.selects RX2 yX2_snapshots yX2_snapshots, Cond.code yX2_snapshots cX2_snapshots 3 (some .int), Cond.methodLink RX4 139 yX0_size]
def wsL_law_r9 : List Cond := [Cond.instanceMethod yX0_size, Cond.selects RX0 yX0_size yX0_size, Cond.code yX0_size cX0_size 1 (some .int), Cond.fieldLink RX0 19 "PhosphorHush$Program" "length" "I", Cond.methodLink RX4 141 yX4_settingCount, Cond.instanceMethod yX4_settingCount, Cond.selects RX4 yX4_settingCount yX4_settingCount, Cond.code yX4_settingCount cX4_settingCount 2 (some .int), Cond.methodLink RL 18 yX4_at, Cond.instanceMethod yX4_at, Cond.selects RX4 yX4_at yX4_at, Cond.code yX4_at cX4_at 2 (some .int), Cond.fieldLink RX4 170 "PhosphorHush$Screen" "order" "[I", Cond.methodLink RL 21 yX4_spot, Cond.instanceMethod yX4_spot, Cond.selects RX4 yX4_spot yX4_spot, Cond.code yX4_spot cX4_spot 4 (some .int), Cond.fieldLink RX4 148 "PhosphorHush$Screen" "phosphors" "[I", Cond.methodLink RX4 144 yX4_isSpot, Cond.methodLink RX4 151 yX4_bit, Cond.static yX4_bit, Cond.code yX4_bit cX4_bit 3 (some .int), Cond.methodLink RX4 155 yX1_positionOf, Cond.methodLink RX4 158 yX1_litTick]
def wsL_law_r10 : List Cond := [Cond.methodLink RX4 161 yX1_eyeMean, Cond.instanceMethod yX1_eyeMean, Cond.selects RX1 yX1_eyeMean yX1_eyeMean, Cond.code yX1_eyeMean cX1_eyeMean 2 (some .int), Cond.methodLink RX4 164 yX1_shutterMean, Cond.instanceMethod yX1_shutterMean, Cond.selects RX1 yX1_shutterMean yX1_shutterMean, Cond.code yX1_shutterMean cX1_shutterMean 3 (some .int), Cond.methodLink RX4 167 yX1_flicker, Cond.instanceMethod yX1_flicker, Cond.selects RX1 yX1_flicker yX1_flicker, Cond.code yX1_flicker cX1_flicker 7 (some .int), Cond.methodLink RX1 107 Lib.Math.max.name, Cond.methodLink RX1 112 Lib.Math.min.name, Cond.static Lib.Math.min.name, Cond.code Lib.Math.min.name Lib.Math.min.code 2 (some .int), Cond.methodLink RL 70 yL_act, Cond.static yL_act, Cond.code yL_act cL_act 5 (some .int), Cond.methodLink RL 30 yX4_set, Cond.instanceMethod yX4_set, Cond.selects RX4 yX4_set yX4_set, Cond.code yX4_set cX4_set 3 (some .int), Cond.methodLink RX4 45 yX1_putSetting]
def wsL_law_r11 : List Cond := [Cond.instanceMethod yX1_putSetting, Cond.selects RX1 yX1_putSetting yX1_putSetting, Cond.code yX1_putSetting cX1_putSetting 4 (some .int), Cond.fieldLink RX1 35 "PhosphorHush$Screen" "LEAST" "[I", Cond.fieldLink RX1 38 "PhosphorHush$Screen" "MOST" "[I", Cond.methodLink RL 33 yX4_setPhosphor, Cond.instanceMethod yX4_setPhosphor, Cond.selects RX4 yX4_setPhosphor yX4_setPhosphor, Cond.code yX4_setPhosphor cX4_setPhosphor 3 (some .int), Cond.methodLink RX4 55 yX1_putPhosphor, Cond.instanceMethod yX1_putPhosphor, Cond.selects RX1 yX1_putPhosphor yX1_putPhosphor, Cond.code yX1_putPhosphor cX1_putPhosphor 4 (some .int), Cond.static yX4_isPhosphor, Cond.code yX4_isPhosphor cX4_isPhosphor 1 (some .boolean), Cond.methodLink RL 36 yX4_darken, Cond.instanceMethod yX4_darken, Cond.selects RX4 yX4_darken yX4_darken, Cond.code yX4_darken cX4_darken 2 (some .int), Cond.methodLink RX4 61 yX1_removeSpot, Cond.instanceMethod yX1_removeSpot, Cond.selects RX1 yX1_removeSpot yX1_removeSpot, Cond.code yX1_removeSpot cX1_removeSpot 4 (some .int), Cond.methodLink RL 39 yX4_exchange]
def wsL_law_r12 : List Cond := [Cond.instanceMethod yX4_exchange, Cond.selects RX4 yX4_exchange yX4_exchange, Cond.code yX4_exchange cX4_exchange 3 (some .int), Cond.methodLink RX4 64 yX1_swapPositions, Cond.instanceMethod yX1_swapPositions, Cond.selects RX1 yX1_swapPositions yX1_swapPositions, Cond.code yX1_swapPositions cX1_swapPositions 3 (some .int), Cond.methodLink RX1 52 yX1_swap, Cond.instanceMethod yX1_swap, Cond.selects RX1 yX1_swap yX1_swap, Cond.code yX1_swap cX1_swap 4 none, Cond.methodLink RX1 56 yX1_litSize, Cond.methodLink RL 42 yX4_sort, Cond.instanceMethod yX4_sort, Cond.selects RX4 yX4_sort yX4_sort, Cond.code yX4_sort cX4_sort 2 (some .int), Cond.methodLink RX4 67 yX1_arrange, Cond.instanceMethod yX1_arrange, Cond.selects RX1 yX1_arrange yX1_arrange, Cond.code yX1_arrange cX1_arrange 6 (some .int), Cond.methodLink RX1 60 yX1_rank, Cond.instanceMethod yX1_rank, Cond.selects RX1 yX1_rank yX1_rank, Cond.code yX1_rank cX1_rank 4 (some .int)]
def wsL_law_r13 : List Cond := [Cond.static yX4_ticksAbove, Cond.code yX4_ticksAbove cX4_ticksAbove 3 (some .int), Cond.methodLink RX4 211 yX4_glow, Cond.methodLink RL 45 yX4_draw, Cond.instanceMethod yX4_draw, Cond.selects RX4 yX4_draw yX4_draw, Cond.code yX4_draw cX4_draw 4 (some .int), Cond.methodLink RX4 70 yX1_paint, Cond.instanceMethod yX1_paint, Cond.selects RX1 yX1_paint yX1_paint, Cond.code yX1_paint cX1_paint 4 (some .int), Cond.constantLong RX1 75 (-1), Cond.methodLink RX1 77 yJ13_bitCount_95d88, Cond.methodLink RL 49 yX4_take, Cond.instanceMethod yX4_take, Cond.selects RX4 yX4_take yX4_take, Cond.code yX4_take cX4_take 2 (some .int), Cond.methodLink RX4 74 yX2_keepSnapshot, Cond.instanceMethod yX2_keepSnapshot, Cond.selects RX2 yX2_keepSnapshot yX2_keepSnapshot, Cond.code yX2_keepSnapshot cX2_keepSnapshot 2 (some .int), Cond.fieldLink RX2 34 "PhosphorHush$Screen" "size" "I", Cond.methodLink RX2 30 yX2_isSlot, Cond.static yX2_isSlot]
def wsL_law_r14 : List Cond := [Cond.code yX2_isSlot cX2_isSlot 1 (some .boolean), Cond.methodLink RL 74 yX4_undo, Cond.instanceMethod yX4_undo, Cond.selects RX4 yX4_undo yX4_undo, Cond.code yX4_undo cX4_undo 1 (some .int), Cond.methodLink RL 78 yL_isRow, Cond.static yL_isRow, Cond.code yL_isRow cL_isRow 8 (some .boolean), Cond.methodLink RL 55 yX4_brightness, Cond.instanceMethod yX4_brightness, Cond.selects RX4 yX4_brightness yX4_brightness, Cond.code yX4_brightness cX4_brightness 4 (some .int), Cond.methodLink RX4 173 yX1_shine, Cond.methodLink RL 82 yL_isSeen, Cond.static yL_isSeen, Cond.code yL_isSeen cL_isSeen 10 (some .boolean), Cond.methodLink RL 58 yX4_firstWrong, Cond.instanceMethod yX4_firstWrong, Cond.selects RX4 yX4_firstWrong yX4_firstWrong, Cond.code yX4_firstWrong cX4_firstWrong 3 (some .int), Cond.methodLink RX4 176 yX4_firstOf, Cond.static yX4_firstOf, Cond.code yX4_firstOf cX4_firstOf 3 (some .int), Cond.methodLink RL 85 yL_isMean]
def wsL_law_r15 : List Cond := [Cond.static yL_isMean, Cond.code yL_isMean cL_isMean 8 (some .boolean), Cond.methodLink RL 89 yX4_restore, Cond.instanceMethod yX4_restore, Cond.selects RX4 yX4_restore yX4_restore, Cond.code yX4_restore cX4_restore 2 (some .int), Cond.methodLink RX4 77 yX2_showSnapshot, Cond.instanceMethod yX2_showSnapshot, Cond.selects RX2 yX2_showSnapshot yX2_showSnapshot, Cond.code yX2_showSnapshot cX2_showSnapshot 2 (some .int), Cond.methodLink RL 92 yX4_ticks, Cond.instanceMethod yX4_ticks, Cond.selects RX4 yX4_ticks yX4_ticks, Cond.code yX4_ticks cX4_ticks 3 (some .int), Cond.methodLink RX4 194 yX4_isPhosphor, Cond.methodLink RX4 197 yX4_ticksAbove, Cond.methodLink RL 95 yX4_bestStart, Cond.instanceMethod yX4_bestStart, Cond.selects RX4 yX4_bestStart yX4_bestStart, Cond.code yX4_bestStart cX4_bestStart 4 (some .int), Cond.methodLink RX4 179 yX1_countWrong, Cond.instanceMethod yX1_countWrong, Cond.selects RX1 yX1_countWrong yX1_countWrong, Cond.code yX1_countWrong cX1_countWrong 3 none]
def wsL_law_r16 : List Cond := [Cond.methodLink RX1 119 yJ7_fill_53178, Cond.static yJ7_fill_53178, Cond.initialized RJ7, Cond.code yJ7_fill_53178 cJ7_fill_53178 4 none, Cond.methodLink RX1 125 yX1_countSeen, Cond.instanceMethod yX1_countSeen, Cond.selects RX1 yX1_countSeen yX1_countSeen, Cond.code yX1_countSeen cX1_countSeen 9 none, Cond.methodLink RL 98 yX4_leastTravel, Cond.instanceMethod yX4_leastTravel, Cond.selects RX4 yX4_leastTravel yX4_leastTravel, Cond.code yX4_leastTravel cX4_leastTravel 2 (some .int), Cond.methodLink RX4 183 yX1_spotsOfOrder, Cond.instanceMethod yX1_spotsOfOrder, Cond.selects RX1 yX1_spotsOfOrder yX1_spotsOfOrder, Cond.code yX1_spotsOfOrder cX1_spotsOfOrder 4 (some .long), Cond.methodLink RX4 186 yX3_plan, Cond.instanceMethod yX3_plan, Cond.selects RX3 yX3_plan yX3_plan, Cond.code yX3_plan cX3_plan 3 none, Cond.fieldLink RX3 22 "PhosphorHush$Travel" "planned" "J", Cond.methodLink RX3 26 yX3_listSpots, Cond.instanceMethod yX3_listSpots, Cond.selects RX3 yX3_listSpots yX3_listSpots]
def wsL_law_r17 : List Cond := [Cond.code yX3_listSpots cX3_listSpots 2 none, Cond.fieldLink RX3 39 "PhosphorHush$Travel" "size" "I", Cond.methodLink RX3 29 yX3_fillRest, Cond.instanceMethod yX3_fillRest, Cond.selects RX3 yX3_fillRest yX3_fillRest, Cond.code yX3_fillRest cX3_fillRest 3 none, Cond.methodLink RX3 46 yX3_leastFrom, Cond.instanceMethod yX3_leastFrom, Cond.selects RX3 yX3_leastFrom yX3_leastFrom, Cond.code yX3_leastFrom cX3_leastFrom 4 (some .int), Cond.methodLink RX3 50 yX3_bestStep, Cond.instanceMethod yX3_bestStep, Cond.selects RX3 yX3_bestStep yX3_bestStep, Cond.code yX3_bestStep cX3_bestStep 7 (some .int), Cond.methodLink RX3 53 yX3_travelBy, Cond.instanceMethod yX3_travelBy, Cond.selects RX3 yX3_travelBy yX3_travelBy, Cond.code yX3_travelBy cX3_travelBy 4 (some .int), Cond.methodLink RX3 32 yX3_follow, Cond.instanceMethod yX3_follow, Cond.selects RX3 yX3_follow yX3_follow, Cond.code yX3_follow cX3_follow 5 none, Cond.fieldLink RX3 35 "PhosphorHush$Travel" "sum" "I", Cond.methodLink RX4 190 yX3_sumOfWays]
def wsL_law_r18 : List Cond := [Cond.instanceMethod yX3_sumOfWays, Cond.selects RX3 yX3_sumOfWays yX3_sumOfWays, Cond.code yX3_sumOfWays cX3_sumOfWays 1 (some .int), Cond.methodLink RX4 191 yX3_stop, Cond.instanceMethod yX3_stop, Cond.selects RX3 yX3_stop yX3_stop, Cond.code yX3_stop cX3_stop 2 (some .int), Cond.methodLink RL 101 yX4_longest, Cond.instanceMethod yX4_longest, Cond.selects RX4 yX4_longest yX4_longest, Cond.code yX4_longest cX4_longest 2 (some .int), Cond.methodLink RL 104 yX4_shortestPeriod, Cond.instanceMethod yX4_shortestPeriod, Cond.selects RX4 yX4_shortestPeriod yX4_shortestPeriod, Cond.code yX4_shortestPeriod cX4_shortestPeriod 2 (some .int)]
def wsL_law : List Cond := (wsL_law_r1 ++ (wsL_law_r2 ++ (wsL_law_r3 ++ (wsL_law_r4 ++ (wsL_law_r5 ++ (wsL_law_r6 ++ (wsL_law_r7 ++ (wsL_law_r8 ++ (wsL_law_r9 ++ (wsL_law_r10 ++ (wsL_law_r11 ++ (wsL_law_r12 ++ (wsL_law_r13 ++ (wsL_law_r14 ++ (wsL_law_r15 ++ (wsL_law_r16 ++ (wsL_law_r17 ++ wsL_law_r18))))))))))))))))) ++ wsX40 ++ wsX20 ++ wsX00 ++ wsX30 ++ wsX10 ++ ([] : List Cond)
theorem inlX0 : ∀ w ∈ wsX00, w ∈ wsL_law := fun _ h => List.mem_append_left _ (List.mem_append_left _ (List.mem_append_left _ (List.mem_append_right _ h)))
theorem inlX1 : ∀ w ∈ wsX10, w ∈ wsL_law := fun _ h => List.mem_append_left _ (List.mem_append_right _ h)
theorem inlX2 : ∀ w ∈ wsX20, w ∈ wsL_law := fun _ h => List.mem_append_left _ (List.mem_append_left _ (List.mem_append_left _ (List.mem_append_left _ (List.mem_append_right _ h))))
theorem inlX3 : ∀ w ∈ wsX30, w ∈ wsL_law := fun _ h => List.mem_append_left _ (List.mem_append_left _ (List.mem_append_right _ h))
theorem inlX4 : ∀ w ∈ wsX40, w ∈ wsL_law := fun _ h => List.mem_append_left _ (List.mem_append_left _ (List.mem_append_left _ (List.mem_append_left _ (List.mem_append_left _ (List.mem_append_right _ h)))))
theorem inJ13 : ∀ w ∈ wsJ130, w ∈ lw_tbl := by decide +kernel
theorem inJ9 : ∀ w ∈ wsJ90, w ∈ lw_tbl := by decide +kernel
theorem inJ10 : ∀ w ∈ wsJ100, w ∈ lw_tbl := by decide +kernel
theorem inJ7 : ∀ w ∈ wsJ70, w ∈ lw_tbl := by decide +kernel
end
section
theorem dX0_init_0 : decode cX0_init 0 = .ok (.aload_n 0, 1) := by decide +kernel
theorem dX0_init_1 : decode cX0_init 1 = .ok (.invokespecial 3, 3) := by decide +kernel
theorem dX0_init_4 : decode cX0_init 4 = .ok (.aload_n 0, 1) := by decide +kernel
theorem dX0_init_5 : decode cX0_init 5 = .ok (.sipush 140, 3) := by decide +kernel
theorem dX0_init_8 : decode cX0_init 8 = .ok (.newarray .char, 2) := by decide +kernel
theorem dX0_init_10 : decode cX0_init 10 = .ok (.putfield 9, 3) := by decide +kernel
theorem dX0_init_13 : decode cX0_init 13 = .ok (.aload_n 0, 1) := by decide +kernel
theorem dX0_init_14 : decode cX0_init 14 = .ok (.iconst 2, 1) := by decide +kernel
theorem dX0_init_15 : decode cX0_init 15 = .ok (.newarray .int, 2) := by decide +kernel
theorem dX0_init_17 : decode cX0_init 17 = .ok (.putfield 15, 3) := by decide +kernel
theorem dX0_init_20 : decode cX0_init 20 = .ok (.return_, 1) := by decide +kernel
theorem dX0_size_0 : decode cX0_size 0 = .ok (.aload_n 0, 1) := by decide +kernel
theorem dX0_size_1 : decode cX0_size 1 = .ok (.getfield 19, 3) := by decide +kernel
theorem dX0_size_4 : decode cX0_size 4 = .ok (.ireturn, 1) := by decide +kernel
theorem dX1_init_0 : decode cX1_init 0 = .ok (.aload_n 0, 1) := by decide +kernel
theorem dX1_init_1 : decode cX1_init 1 = .ok (.invokespecial 3, 3) := by decide +kernel
theorem dX1_init_4 : decode cX1_init 4 = .ok (.aload_n 0, 1) := by decide +kernel
theorem dX1_init_5 : decode cX1_init 5 = .ok (.bipush 64, 2) := by decide +kernel
theorem dX1_init_7 : decode cX1_init 7 = .ok (.newarray .int, 2) := by decide +kernel
theorem dX1_init_9 : decode cX1_init 9 = .ok (.putfield 9, 3) := by decide +kernel
theorem dX1_init_12 : decode cX1_init 12 = .ok (.aload_n 0, 1) := by decide +kernel
theorem dX1_init_13 : decode cX1_init 13 = .ok (.bipush 12, 2) := by decide +kernel
theorem dX1_init_15 : decode cX1_init 15 = .ok (.newarray .int, 2) := by decide +kernel
theorem dX1_init_17 : decode cX1_init 17 = .ok (.putfield 15, 3) := by decide +kernel
theorem dX1_init_20 : decode cX1_init 20 = .ok (.aload_n 0, 1) := by decide +kernel
theorem dX1_init_21 : decode cX1_init 21 = .ok (.iconst 2, 1) := by decide +kernel
theorem dX1_init_22 : decode cX1_init 22 = .ok (.newarray .long, 2) := by decide +kernel
theorem dX1_init_24 : decode cX1_init 24 = .ok (.putfield 18, 3) := by decide +kernel
theorem dX1_init_27 : decode cX1_init 27 = .ok (.aload_n 0, 1) := by decide +kernel
theorem dX1_init_28 : decode cX1_init 28 = .ok (.bipush 6, 2) := by decide +kernel
theorem dX1_init_30 : decode cX1_init 30 = .ok (.newarray .int, 2) := by decide +kernel
theorem dX1_init_32 : decode cX1_init 32 = .ok (.dup, 1) := by decide +kernel
theorem dX1_init_33 : decode cX1_init 33 = .ok (.iconst 0, 1) := by decide +kernel
theorem dX1_init_34 : decode cX1_init 34 = .ok (.bipush 60, 2) := by decide +kernel
theorem dX1_init_36 : decode cX1_init 36 = .ok (.iastore, 1) := by decide +kernel
theorem dX1_init_37 : decode cX1_init 37 = .ok (.dup, 1) := by decide +kernel
theorem dX1_init_38 : decode cX1_init 38 = .ok (.iconst 1, 1) := by decide +kernel
theorem dX1_init_39 : decode cX1_init 39 = .ok (.iconst 1, 1) := by decide +kernel
theorem dX1_init_40 : decode cX1_init 40 = .ok (.iastore, 1) := by decide +kernel
theorem dX1_init_41 : decode cX1_init 41 = .ok (.dup, 1) := by decide +kernel
theorem dX1_init_42 : decode cX1_init 42 = .ok (.iconst 2, 1) := by decide +kernel
theorem dX1_init_43 : decode cX1_init 43 = .ok (.bipush 20, 2) := by decide +kernel
theorem dX1_init_45 : decode cX1_init 45 = .ok (.iastore, 1) := by decide +kernel
theorem dX1_init_46 : decode cX1_init 46 = .ok (.dup, 1) := by decide +kernel
theorem dX1_init_47 : decode cX1_init 47 = .ok (.iconst 3, 1) := by decide +kernel
theorem dX1_init_48 : decode cX1_init 48 = .ok (.iconst 0, 1) := by decide +kernel
theorem dX1_init_49 : decode cX1_init 49 = .ok (.iastore, 1) := by decide +kernel
theorem dX1_init_50 : decode cX1_init 50 = .ok (.dup, 1) := by decide +kernel
theorem dX1_init_51 : decode cX1_init 51 = .ok (.iconst 4, 1) := by decide +kernel
theorem dX1_init_52 : decode cX1_init 52 = .ok (.iconst 4, 1) := by decide +kernel
theorem dX1_init_53 : decode cX1_init 53 = .ok (.iastore, 1) := by decide +kernel
theorem dX1_init_54 : decode cX1_init 54 = .ok (.dup, 1) := by decide +kernel
theorem dX1_init_55 : decode cX1_init 55 = .ok (.iconst 5, 1) := by decide +kernel
theorem dX1_init_56 : decode cX1_init 56 = .ok (.bipush 60, 2) := by decide +kernel
theorem dX1_init_58 : decode cX1_init 58 = .ok (.iastore, 1) := by decide +kernel
theorem dX1_init_59 : decode cX1_init 59 = .ok (.putfield 22, 3) := by decide +kernel
theorem dX1_init_62 : decode cX1_init 62 = .ok (.return_, 1) := by decide +kernel
theorem dX1_copyFrom_0 : decode cX1_copyFrom 0 = .ok (.aload_n 1, 1) := by decide +kernel
theorem dX1_copyFrom_1 : decode cX1_copyFrom 1 = .ok (.getfield 9, 3) := by decide +kernel
theorem dX1_copyFrom_4 : decode cX1_copyFrom 4 = .ok (.iconst 0, 1) := by decide +kernel
theorem dX1_copyFrom_5 : decode cX1_copyFrom 5 = .ok (.aload_n 0, 1) := by decide +kernel
theorem dX1_copyFrom_6 : decode cX1_copyFrom 6 = .ok (.getfield 9, 3) := by decide +kernel
theorem dX1_copyFrom_9 : decode cX1_copyFrom 9 = .ok (.iconst 0, 1) := by decide +kernel
theorem dX1_copyFrom_10 : decode cX1_copyFrom 10 = .ok (.bipush 64, 2) := by decide +kernel
theorem dX1_copyFrom_12 : decode cX1_copyFrom 12 = .ok (.invokestatic 25, 3) := by decide +kernel
theorem dX1_copyFrom_15 : decode cX1_copyFrom 15 = .ok (.aload_n 1, 1) := by decide +kernel
theorem dX1_copyFrom_16 : decode cX1_copyFrom 16 = .ok (.getfield 15, 3) := by decide +kernel
theorem dX1_copyFrom_19 : decode cX1_copyFrom 19 = .ok (.iconst 0, 1) := by decide +kernel
theorem dX1_copyFrom_20 : decode cX1_copyFrom 20 = .ok (.aload_n 0, 1) := by decide +kernel
theorem dX1_copyFrom_21 : decode cX1_copyFrom 21 = .ok (.getfield 15, 3) := by decide +kernel
theorem dX1_copyFrom_24 : decode cX1_copyFrom 24 = .ok (.iconst 0, 1) := by decide +kernel
theorem dX1_copyFrom_25 : decode cX1_copyFrom 25 = .ok (.bipush 12, 2) := by decide +kernel
theorem dX1_copyFrom_27 : decode cX1_copyFrom 27 = .ok (.invokestatic 25, 3) := by decide +kernel
theorem dX1_copyFrom_30 : decode cX1_copyFrom 30 = .ok (.aload_n 0, 1) := by decide +kernel
theorem dX1_copyFrom_31 : decode cX1_copyFrom 31 = .ok (.aload_n 1, 1) := by decide +kernel
theorem dX1_copyFrom_32 : decode cX1_copyFrom 32 = .ok (.getfield 31, 3) := by decide +kernel
theorem dX1_copyFrom_35 : decode cX1_copyFrom 35 = .ok (.putfield 31, 3) := by decide +kernel
theorem dX1_copyFrom_38 : decode cX1_copyFrom 38 = .ok (.aload_n 1, 1) := by decide +kernel
theorem dX1_copyFrom_39 : decode cX1_copyFrom 39 = .ok (.getfield 18, 3) := by decide +kernel
theorem dX1_copyFrom_42 : decode cX1_copyFrom 42 = .ok (.iconst 0, 1) := by decide +kernel
theorem dX1_copyFrom_43 : decode cX1_copyFrom 43 = .ok (.aload_n 0, 1) := by decide +kernel
theorem dX1_copyFrom_44 : decode cX1_copyFrom 44 = .ok (.getfield 18, 3) := by decide +kernel
theorem dX1_copyFrom_47 : decode cX1_copyFrom 47 = .ok (.iconst 0, 1) := by decide +kernel
theorem dX1_copyFrom_48 : decode cX1_copyFrom 48 = .ok (.iconst 2, 1) := by decide +kernel
theorem dX1_copyFrom_49 : decode cX1_copyFrom 49 = .ok (.invokestatic 25, 3) := by decide +kernel
theorem dX1_copyFrom_52 : decode cX1_copyFrom 52 = .ok (.aload_n 1, 1) := by decide +kernel
theorem dX1_copyFrom_53 : decode cX1_copyFrom 53 = .ok (.getfield 22, 3) := by decide +kernel
theorem dX1_copyFrom_56 : decode cX1_copyFrom 56 = .ok (.iconst 0, 1) := by decide +kernel
theorem dX1_copyFrom_57 : decode cX1_copyFrom 57 = .ok (.aload_n 0, 1) := by decide +kernel
theorem dX1_copyFrom_58 : decode cX1_copyFrom 58 = .ok (.getfield 22, 3) := by decide +kernel
theorem dX1_copyFrom_61 : decode cX1_copyFrom 61 = .ok (.iconst 0, 1) := by decide +kernel
theorem dX1_copyFrom_62 : decode cX1_copyFrom 62 = .ok (.bipush 6, 2) := by decide +kernel
theorem dX1_copyFrom_64 : decode cX1_copyFrom 64 = .ok (.invokestatic 25, 3) := by decide +kernel
theorem dX1_copyFrom_67 : decode cX1_copyFrom 67 = .ok (.return_, 1) := by decide +kernel
theorem dX1_putSetting_0 : decode cX1_putSetting 0 = .ok (.iload_n 1, 1) := by decide +kernel
theorem dX1_putSetting_1 : decode cX1_putSetting 1 = .ok (.ifCond .lt 27, 3) := by decide +kernel
theorem dX1_putSetting_4 : decode cX1_putSetting 4 = .ok (.iload_n 1, 1) := by decide +kernel
theorem dX1_putSetting_5 : decode cX1_putSetting 5 = .ok (.bipush 6, 2) := by decide +kernel
theorem dX1_putSetting_7 : decode cX1_putSetting 7 = .ok (.if_icmp .ge 21, 3) := by decide +kernel
theorem dX1_putSetting_10 : decode cX1_putSetting 10 = .ok (.iload_n 2, 1) := by decide +kernel
theorem dX1_putSetting_11 : decode cX1_putSetting 11 = .ok (.getstatic 35, 3) := by decide +kernel
theorem dX1_putSetting_14 : decode cX1_putSetting 14 = .ok (.iload_n 1, 1) := by decide +kernel
theorem dX1_putSetting_15 : decode cX1_putSetting 15 = .ok (.iaload, 1) := by decide +kernel
theorem dX1_putSetting_16 : decode cX1_putSetting 16 = .ok (.if_icmp .lt 12, 3) := by decide +kernel
theorem dX1_putSetting_19 : decode cX1_putSetting 19 = .ok (.iload_n 2, 1) := by decide +kernel
theorem dX1_putSetting_20 : decode cX1_putSetting 20 = .ok (.getstatic 38, 3) := by decide +kernel
theorem dX1_putSetting_23 : decode cX1_putSetting 23 = .ok (.iload_n 1, 1) := by decide +kernel
theorem dX1_putSetting_24 : decode cX1_putSetting 24 = .ok (.iaload, 1) := by decide +kernel
theorem dX1_putSetting_25 : decode cX1_putSetting 25 = .ok (.if_icmp .le 5, 3) := by decide +kernel
theorem dX1_putSetting_28 : decode cX1_putSetting 28 = .ok (.iconst (-1), 1) := by decide +kernel
theorem dX1_putSetting_29 : decode cX1_putSetting 29 = .ok (.ireturn, 1) := by decide +kernel
theorem dX1_putSetting_30 : decode cX1_putSetting 30 = .ok (.aload_n 0, 1) := by decide +kernel
theorem dX1_putSetting_31 : decode cX1_putSetting 31 = .ok (.getfield 22, 3) := by decide +kernel
theorem dX1_putSetting_34 : decode cX1_putSetting 34 = .ok (.iload_n 1, 1) := by decide +kernel
theorem dX1_putSetting_35 : decode cX1_putSetting 35 = .ok (.iaload, 1) := by decide +kernel
theorem dX1_putSetting_36 : decode cX1_putSetting 36 = .ok (.istore_n 3, 1) := by decide +kernel
theorem dX1_putSetting_37 : decode cX1_putSetting 37 = .ok (.aload_n 0, 1) := by decide +kernel
theorem dX1_putSetting_38 : decode cX1_putSetting 38 = .ok (.getfield 22, 3) := by decide +kernel
theorem dX1_putSetting_41 : decode cX1_putSetting 41 = .ok (.iload_n 1, 1) := by decide +kernel
theorem dX1_putSetting_42 : decode cX1_putSetting 42 = .ok (.iload_n 2, 1) := by decide +kernel
theorem dX1_putSetting_43 : decode cX1_putSetting 43 = .ok (.iastore, 1) := by decide +kernel
theorem dX1_putSetting_44 : decode cX1_putSetting 44 = .ok (.iload_n 3, 1) := by decide +kernel
theorem dX1_putSetting_45 : decode cX1_putSetting 45 = .ok (.ireturn, 1) := by decide +kernel
set_option maxRecDepth 20000 in
theorem ggX1_putPhosphor_X4_isSpot : GoodIn wsX1_putPhosphor wsX4_isSpot := goodIn_r _ [4] (by decide +kernel) (by decide +kernel)
set_option maxRecDepth 20000 in
theorem gX1_putPhosphor_X4_isSpot_n41 : GoodIn wsX1_putPhosphor (wsX4_isSpot) := ggX1_putPhosphor_X4_isSpot
set_option maxRecDepth 20000 in
theorem ggX1_putPhosphor_X4_isPhosphor : GoodIn wsX1_putPhosphor wsX4_isPhosphor := goodIn_r _ [6] (by decide +kernel) (by decide +kernel)
set_option maxRecDepth 20000 in
theorem gX1_putPhosphor_X4_isPhosphor_n45 : GoodIn wsX1_putPhosphor (wsX4_isPhosphor) := ggX1_putPhosphor_X4_isPhosphor
theorem dX1_putPhosphor_0 : decode cX1_putPhosphor 0 = .ok (.iload_n 1, 1) := by decide +kernel
theorem dX1_putPhosphor_1 : decode cX1_putPhosphor 1 = .ok (.invokestatic 41, 3) := by decide +kernel
theorem dX1_putPhosphor_4 : decode cX1_putPhosphor 4 = .ok (.ifCond .eq 10, 3) := by decide +kernel
theorem dX1_putPhosphor_7 : decode cX1_putPhosphor 7 = .ok (.iload_n 2, 1) := by decide +kernel
theorem dX1_putPhosphor_8 : decode cX1_putPhosphor 8 = .ok (.invokestatic 45, 3) := by decide +kernel
theorem dX1_putPhosphor_11 : decode cX1_putPhosphor 11 = .ok (.ifCond .ne 5, 3) := by decide +kernel
theorem dX1_putPhosphor_14 : decode cX1_putPhosphor 14 = .ok (.iconst (-1), 1) := by decide +kernel
theorem dX1_putPhosphor_15 : decode cX1_putPhosphor 15 = .ok (.ireturn, 1) := by decide +kernel
theorem dX1_putPhosphor_16 : decode cX1_putPhosphor 16 = .ok (.aload_n 0, 1) := by decide +kernel
theorem dX1_putPhosphor_17 : decode cX1_putPhosphor 17 = .ok (.getfield 9, 3) := by decide +kernel
theorem dX1_putPhosphor_20 : decode cX1_putPhosphor 20 = .ok (.iload_n 1, 1) := by decide +kernel
theorem dX1_putPhosphor_21 : decode cX1_putPhosphor 21 = .ok (.iaload, 1) := by decide +kernel
theorem dX1_putPhosphor_22 : decode cX1_putPhosphor 22 = .ok (.istore_n 3, 1) := by decide +kernel
theorem dX1_putPhosphor_23 : decode cX1_putPhosphor 23 = .ok (.aload_n 0, 1) := by decide +kernel
theorem dX1_putPhosphor_24 : decode cX1_putPhosphor 24 = .ok (.getfield 9, 3) := by decide +kernel
theorem dX1_putPhosphor_27 : decode cX1_putPhosphor 27 = .ok (.iload_n 1, 1) := by decide +kernel
theorem dX1_putPhosphor_28 : decode cX1_putPhosphor 28 = .ok (.iload_n 2, 1) := by decide +kernel
theorem dX1_putPhosphor_29 : decode cX1_putPhosphor 29 = .ok (.iastore, 1) := by decide +kernel
theorem dX1_putPhosphor_30 : decode cX1_putPhosphor 30 = .ok (.iload_n 3, 1) := by decide +kernel
theorem dX1_putPhosphor_31 : decode cX1_putPhosphor 31 = .ok (.ireturn, 1) := by decide +kernel
set_option maxRecDepth 20000 in
theorem ggX1_addSpot_X4_isSpot : GoodIn wsX1_addSpot wsX4_isSpot := goodIn_r _ [5] (by decide +kernel) (by decide +kernel)
set_option maxRecDepth 20000 in
theorem gX1_addSpot_X4_isSpot_n41 : GoodIn wsX1_addSpot (wsX4_isSpot) := ggX1_addSpot_X4_isSpot
set_option maxRecDepth 20000 in
theorem ggX1_addSpot_X1_positionOf : GoodIn wsX1_addSpot wsX1_positionOf := goodIn_r _ [10, 1, 2, 11, 12, 13, 14, 15] (by decide +kernel) (by decide +kernel)
set_option maxRecDepth 20000 in
theorem gX1_addSpot_X1_positionOf : GoodIn wsX1_addSpot (wsV RX1 48 RX1 yX1_positionOf wsX1_positionOf) := goodIn_app (goodIn_of _ (by decide +kernel)) ggX1_addSpot_X1_positionOf
theorem dX1_addSpot_0 : decode cX1_addSpot 0 = .ok (.iload_n 1, 1) := by decide +kernel
theorem dX1_addSpot_1 : decode cX1_addSpot 1 = .ok (.invokestatic 41, 3) := by decide +kernel
theorem dX1_addSpot_4 : decode cX1_addSpot 4 = .ok (.ifCond .ne 5, 3) := by decide +kernel
theorem dX1_addSpot_7 : decode cX1_addSpot 7 = .ok (.iconst (-1), 1) := by decide +kernel
theorem dX1_addSpot_8 : decode cX1_addSpot 8 = .ok (.ireturn, 1) := by decide +kernel
theorem dX1_addSpot_9 : decode cX1_addSpot 9 = .ok (.aload_n 0, 1) := by decide +kernel
theorem dX1_addSpot_10 : decode cX1_addSpot 10 = .ok (.iload_n 1, 1) := by decide +kernel
theorem dX1_addSpot_11 : decode cX1_addSpot 11 = .ok (.invokevirtual 48, 3) := by decide +kernel
theorem dX1_addSpot_14 : decode cX1_addSpot 14 = .ok (.bipush (-9), 2) := by decide +kernel
theorem dX1_addSpot_16 : decode cX1_addSpot 16 = .ok (.if_icmp .eq 6, 3) := by decide +kernel
theorem dX1_addSpot_19 : decode cX1_addSpot 19 = .ok (.bipush (-2), 2) := by decide +kernel
theorem dX1_addSpot_21 : decode cX1_addSpot 21 = .ok (.ireturn, 1) := by decide +kernel
theorem dX1_addSpot_22 : decode cX1_addSpot 22 = .ok (.aload_n 0, 1) := by decide +kernel
theorem dX1_addSpot_23 : decode cX1_addSpot 23 = .ok (.getfield 31, 3) := by decide +kernel
theorem dX1_addSpot_26 : decode cX1_addSpot 26 = .ok (.bipush 12, 2) := by decide +kernel
theorem dX1_addSpot_28 : decode cX1_addSpot 28 = .ok (.if_icmp .lt 6, 3) := by decide +kernel
theorem dX1_addSpot_31 : decode cX1_addSpot 31 = .ok (.bipush (-3), 2) := by decide +kernel
theorem dX1_addSpot_33 : decode cX1_addSpot 33 = .ok (.ireturn, 1) := by decide +kernel
theorem dX1_addSpot_34 : decode cX1_addSpot 34 = .ok (.aload_n 0, 1) := by decide +kernel
theorem dX1_addSpot_35 : decode cX1_addSpot 35 = .ok (.getfield 15, 3) := by decide +kernel
theorem dX1_addSpot_38 : decode cX1_addSpot 38 = .ok (.aload_n 0, 1) := by decide +kernel
theorem dX1_addSpot_39 : decode cX1_addSpot 39 = .ok (.getfield 31, 3) := by decide +kernel
theorem dX1_addSpot_42 : decode cX1_addSpot 42 = .ok (.iload_n 1, 1) := by decide +kernel
theorem dX1_addSpot_43 : decode cX1_addSpot 43 = .ok (.iastore, 1) := by decide +kernel
theorem dX1_addSpot_44 : decode cX1_addSpot 44 = .ok (.aload_n 0, 1) := by decide +kernel
theorem dX1_addSpot_45 : decode cX1_addSpot 45 = .ok (.dup, 1) := by decide +kernel
theorem dX1_addSpot_46 : decode cX1_addSpot 46 = .ok (.getfield 31, 3) := by decide +kernel
theorem dX1_addSpot_49 : decode cX1_addSpot 49 = .ok (.iconst 1, 1) := by decide +kernel
theorem dX1_addSpot_50 : decode cX1_addSpot 50 = .ok (.iadd, 1) := by decide +kernel
theorem dX1_addSpot_51 : decode cX1_addSpot 51 = .ok (.putfield 31, 3) := by decide +kernel
theorem dX1_addSpot_54 : decode cX1_addSpot 54 = .ok (.aload_n 0, 1) := by decide +kernel
theorem dX1_addSpot_55 : decode cX1_addSpot 55 = .ok (.getfield 31, 3) := by decide +kernel
theorem dX1_addSpot_58 : decode cX1_addSpot 58 = .ok (.iconst 1, 1) := by decide +kernel
theorem dX1_addSpot_59 : decode cX1_addSpot 59 = .ok (.isub, 1) := by decide +kernel
theorem dX1_addSpot_60 : decode cX1_addSpot 60 = .ok (.ireturn, 1) := by decide +kernel
set_option maxRecDepth 20000 in
theorem ggX1_removeSpot_X4_isSpot : GoodIn wsX1_removeSpot wsX4_isSpot := goodIn_r _ [5] (by decide +kernel) (by decide +kernel)
set_option maxRecDepth 20000 in
theorem gX1_removeSpot_X4_isSpot_n41 : GoodIn wsX1_removeSpot (wsX4_isSpot) := ggX1_removeSpot_X4_isSpot
set_option maxRecDepth 20000 in
theorem ggX1_removeSpot_X1_positionOf : GoodIn wsX1_removeSpot wsX1_positionOf := goodIn_r _ [10, 1, 2, 11, 12, 13, 14, 15] (by decide +kernel) (by decide +kernel)
set_option maxRecDepth 20000 in
theorem gX1_removeSpot_X1_positionOf : GoodIn wsX1_removeSpot (wsV RX1 48 RX1 yX1_positionOf wsX1_positionOf) := goodIn_app (goodIn_of _ (by decide +kernel)) ggX1_removeSpot_X1_positionOf
theorem dX1_removeSpot_0 : decode cX1_removeSpot 0 = .ok (.iload_n 1, 1) := by decide +kernel
theorem dX1_removeSpot_1 : decode cX1_removeSpot 1 = .ok (.invokestatic 41, 3) := by decide +kernel
theorem dX1_removeSpot_4 : decode cX1_removeSpot 4 = .ok (.ifCond .ne 5, 3) := by decide +kernel
theorem dX1_removeSpot_7 : decode cX1_removeSpot 7 = .ok (.iconst (-1), 1) := by decide +kernel
theorem dX1_removeSpot_8 : decode cX1_removeSpot 8 = .ok (.ireturn, 1) := by decide +kernel
theorem dX1_removeSpot_9 : decode cX1_removeSpot 9 = .ok (.aload_n 0, 1) := by decide +kernel
theorem dX1_removeSpot_10 : decode cX1_removeSpot 10 = .ok (.iload_n 1, 1) := by decide +kernel
theorem dX1_removeSpot_11 : decode cX1_removeSpot 11 = .ok (.invokevirtual 48, 3) := by decide +kernel
theorem dX1_removeSpot_14 : decode cX1_removeSpot 14 = .ok (.istore_n 2, 1) := by decide +kernel
theorem dX1_removeSpot_15 : decode cX1_removeSpot 15 = .ok (.iload_n 2, 1) := by decide +kernel
theorem dX1_removeSpot_16 : decode cX1_removeSpot 16 = .ok (.bipush (-9), 2) := by decide +kernel
theorem dX1_removeSpot_18 : decode cX1_removeSpot 18 = .ok (.if_icmp .ne 6, 3) := by decide +kernel
theorem dX1_removeSpot_21 : decode cX1_removeSpot 21 = .ok (.bipush (-2), 2) := by decide +kernel
theorem dX1_removeSpot_23 : decode cX1_removeSpot 23 = .ok (.ireturn, 1) := by decide +kernel
theorem dX1_removeSpot_24 : decode cX1_removeSpot 24 = .ok (.iload_n 2, 1) := by decide +kernel
theorem dX1_removeSpot_25 : decode cX1_removeSpot 25 = .ok (.iconst 1, 1) := by decide +kernel
theorem dX1_removeSpot_26 : decode cX1_removeSpot 26 = .ok (.iadd, 1) := by decide +kernel
theorem dX1_removeSpot_27 : decode cX1_removeSpot 27 = .ok (.istore_n 3, 1) := by decide +kernel
theorem dX1_removeSpot_28 : decode cX1_removeSpot 28 = .ok (.iload_n 3, 1) := by decide +kernel
theorem dX1_removeSpot_29 : decode cX1_removeSpot 29 = .ok (.aload_n 0, 1) := by decide +kernel
theorem dX1_removeSpot_30 : decode cX1_removeSpot 30 = .ok (.getfield 31, 3) := by decide +kernel
theorem dX1_removeSpot_33 : decode cX1_removeSpot 33 = .ok (.if_icmp .ge 23, 3) := by decide +kernel
theorem dX1_removeSpot_36 : decode cX1_removeSpot 36 = .ok (.aload_n 0, 1) := by decide +kernel
theorem dX1_removeSpot_37 : decode cX1_removeSpot 37 = .ok (.getfield 15, 3) := by decide +kernel
theorem dX1_removeSpot_40 : decode cX1_removeSpot 40 = .ok (.iload_n 3, 1) := by decide +kernel
theorem dX1_removeSpot_41 : decode cX1_removeSpot 41 = .ok (.iconst 1, 1) := by decide +kernel
theorem dX1_removeSpot_42 : decode cX1_removeSpot 42 = .ok (.isub, 1) := by decide +kernel
theorem dX1_removeSpot_43 : decode cX1_removeSpot 43 = .ok (.aload_n 0, 1) := by decide +kernel
theorem dX1_removeSpot_44 : decode cX1_removeSpot 44 = .ok (.getfield 15, 3) := by decide +kernel
theorem dX1_removeSpot_47 : decode cX1_removeSpot 47 = .ok (.iload_n 3, 1) := by decide +kernel
theorem dX1_removeSpot_48 : decode cX1_removeSpot 48 = .ok (.iaload, 1) := by decide +kernel
theorem dX1_removeSpot_49 : decode cX1_removeSpot 49 = .ok (.iastore, 1) := by decide +kernel
theorem dX1_removeSpot_50 : decode cX1_removeSpot 50 = .ok (.iinc 3 1, 3) := by decide +kernel
theorem dX1_removeSpot_53 : decode cX1_removeSpot 53 = .ok (.goto (-25), 3) := by decide +kernel
theorem dX1_removeSpot_56 : decode cX1_removeSpot 56 = .ok (.aload_n 0, 1) := by decide +kernel
theorem dX1_removeSpot_57 : decode cX1_removeSpot 57 = .ok (.dup, 1) := by decide +kernel
theorem dX1_removeSpot_58 : decode cX1_removeSpot 58 = .ok (.getfield 31, 3) := by decide +kernel
theorem dX1_removeSpot_61 : decode cX1_removeSpot 61 = .ok (.iconst 1, 1) := by decide +kernel
theorem dX1_removeSpot_62 : decode cX1_removeSpot 62 = .ok (.isub, 1) := by decide +kernel
theorem dX1_removeSpot_63 : decode cX1_removeSpot 63 = .ok (.putfield 31, 3) := by decide +kernel
theorem dX1_removeSpot_66 : decode cX1_removeSpot 66 = .ok (.iload_n 2, 1) := by decide +kernel
theorem dX1_removeSpot_67 : decode cX1_removeSpot 67 = .ok (.ireturn, 1) := by decide +kernel
set_option maxRecDepth 20000 in
theorem ggX1_swapPositions_X1_swap : GoodIn wsX1_swapPositions wsX1_swap := goodIn_r _ [6, 7, 24, 25, 26, 27, 28] (by decide +kernel) (by decide +kernel)
set_option maxRecDepth 20000 in
theorem gX1_swapPositions_X1_swap : GoodIn wsX1_swapPositions (wsV RX1 52 RX1 yX1_swap wsX1_swap) := goodIn_app (goodIn_of _ (by decide +kernel)) ggX1_swapPositions_X1_swap
set_option maxRecDepth 20000 in
theorem ggX1_swapPositions_X1_litSize : GoodIn wsX1_swapPositions wsX1_litSize := goodIn_r _ [11, 1, 12, 13, 14, 15, 5, 16, 7, 17, 18, 19, 20, 21, 22, 23, 24, 25, 26, 27, 28] (by decide +kernel) (by decide +kernel)
set_option maxRecDepth 20000 in
theorem gX1_swapPositions_X1_litSize : GoodIn wsX1_swapPositions (wsV RX1 56 RX1 yX1_litSize wsX1_litSize) := goodIn_app (goodIn_of _ (by decide +kernel)) ggX1_swapPositions_X1_litSize
theorem dX1_swapPositions_0 : decode cX1_swapPositions 0 = .ok (.iload_n 1, 1) := by decide +kernel
theorem dX1_swapPositions_1 : decode cX1_swapPositions 1 = .ok (.ifCond .lt 23, 3) := by decide +kernel
theorem dX1_swapPositions_4 : decode cX1_swapPositions 4 = .ok (.iload_n 1, 1) := by decide +kernel
theorem dX1_swapPositions_5 : decode cX1_swapPositions 5 = .ok (.aload_n 0, 1) := by decide +kernel
theorem dX1_swapPositions_6 : decode cX1_swapPositions 6 = .ok (.getfield 31, 3) := by decide +kernel
theorem dX1_swapPositions_9 : decode cX1_swapPositions 9 = .ok (.if_icmp .ge 15, 3) := by decide +kernel
theorem dX1_swapPositions_12 : decode cX1_swapPositions 12 = .ok (.iload_n 2, 1) := by decide +kernel
theorem dX1_swapPositions_13 : decode cX1_swapPositions 13 = .ok (.ifCond .lt 11, 3) := by decide +kernel
theorem dX1_swapPositions_16 : decode cX1_swapPositions 16 = .ok (.iload_n 2, 1) := by decide +kernel
theorem dX1_swapPositions_17 : decode cX1_swapPositions 17 = .ok (.aload_n 0, 1) := by decide +kernel
theorem dX1_swapPositions_18 : decode cX1_swapPositions 18 = .ok (.getfield 31, 3) := by decide +kernel
theorem dX1_swapPositions_21 : decode cX1_swapPositions 21 = .ok (.if_icmp .lt 5, 3) := by decide +kernel
theorem dX1_swapPositions_24 : decode cX1_swapPositions 24 = .ok (.iconst (-1), 1) := by decide +kernel
theorem dX1_swapPositions_25 : decode cX1_swapPositions 25 = .ok (.ireturn, 1) := by decide +kernel
theorem dX1_swapPositions_26 : decode cX1_swapPositions 26 = .ok (.aload_n 0, 1) := by decide +kernel
theorem dX1_swapPositions_27 : decode cX1_swapPositions 27 = .ok (.iload_n 1, 1) := by decide +kernel
theorem dX1_swapPositions_28 : decode cX1_swapPositions 28 = .ok (.iload_n 2, 1) := by decide +kernel
theorem dX1_swapPositions_29 : decode cX1_swapPositions 29 = .ok (.invokevirtual 52, 3) := by decide +kernel
theorem dX1_swapPositions_32 : decode cX1_swapPositions 32 = .ok (.aload_n 0, 1) := by decide +kernel
theorem dX1_swapPositions_33 : decode cX1_swapPositions 33 = .ok (.invokevirtual 56, 3) := by decide +kernel
theorem dX1_swapPositions_36 : decode cX1_swapPositions 36 = .ok (.ireturn, 1) := by decide +kernel
theorem dX1_swap_0 : decode cX1_swap 0 = .ok (.aload_n 0, 1) := by decide +kernel
theorem dX1_swap_1 : decode cX1_swap 1 = .ok (.getfield 15, 3) := by decide +kernel
theorem dX1_swap_4 : decode cX1_swap 4 = .ok (.iload_n 1, 1) := by decide +kernel
theorem dX1_swap_5 : decode cX1_swap 5 = .ok (.iaload, 1) := by decide +kernel
theorem dX1_swap_6 : decode cX1_swap 6 = .ok (.istore_n 3, 1) := by decide +kernel
theorem dX1_swap_7 : decode cX1_swap 7 = .ok (.aload_n 0, 1) := by decide +kernel
theorem dX1_swap_8 : decode cX1_swap 8 = .ok (.getfield 15, 3) := by decide +kernel
theorem dX1_swap_11 : decode cX1_swap 11 = .ok (.iload_n 1, 1) := by decide +kernel
theorem dX1_swap_12 : decode cX1_swap 12 = .ok (.aload_n 0, 1) := by decide +kernel
theorem dX1_swap_13 : decode cX1_swap 13 = .ok (.getfield 15, 3) := by decide +kernel
theorem dX1_swap_16 : decode cX1_swap 16 = .ok (.iload_n 2, 1) := by decide +kernel
theorem dX1_swap_17 : decode cX1_swap 17 = .ok (.iaload, 1) := by decide +kernel
theorem dX1_swap_18 : decode cX1_swap 18 = .ok (.iastore, 1) := by decide +kernel
theorem dX1_swap_19 : decode cX1_swap 19 = .ok (.aload_n 0, 1) := by decide +kernel
theorem dX1_swap_20 : decode cX1_swap 20 = .ok (.getfield 15, 3) := by decide +kernel
theorem dX1_swap_23 : decode cX1_swap 23 = .ok (.iload_n 2, 1) := by decide +kernel
theorem dX1_swap_24 : decode cX1_swap 24 = .ok (.iload_n 3, 1) := by decide +kernel
theorem dX1_swap_25 : decode cX1_swap 25 = .ok (.iastore, 1) := by decide +kernel
theorem dX1_swap_26 : decode cX1_swap 26 = .ok (.return_, 1) := by decide +kernel
set_option maxRecDepth 20000 in
theorem ggX1_arrange_X1_rank : GoodIn wsX1_arrange wsX1_rank := goodIn_r _ [7, 8, 9, 10, 11, 12, 13, 14, 15, 16, 17, 18, 19, 20, 21, 22, 23, 24, 25, 26, 40, 41, 42, 43, 44] (by decide +kernel) (by decide +kernel)
set_option maxRecDepth 20000 in
theorem gX1_arrange_X1_rank : GoodIn wsX1_arrange (wsV RX1 60 RX1 yX1_rank wsX1_rank) := goodIn_app (goodIn_of _ (by decide +kernel)) ggX1_arrange_X1_rank
set_option maxRecDepth 20000 in
theorem ggX1_arrange_X1_swap : GoodIn wsX1_arrange wsX1_swap := goodIn_r _ [30, 2, 40, 41, 42, 43, 44] (by decide +kernel) (by decide +kernel)
set_option maxRecDepth 20000 in
theorem gX1_arrange_X1_swap : GoodIn wsX1_arrange (wsV RX1 52 RX1 yX1_swap wsX1_swap) := goodIn_app (goodIn_of _ (by decide +kernel)) ggX1_arrange_X1_swap
set_option maxRecDepth 20000 in
theorem ggX1_arrange_X1_litSize : GoodIn wsX1_arrange wsX1_litSize := goodIn_r _ [34, 1, 35, 36, 37, 38, 6, 39, 2, 13, 11, 14, 15, 16, 17, 18, 40, 41, 42, 43, 44] (by decide +kernel) (by decide +kernel)
set_option maxRecDepth 20000 in
theorem gX1_arrange_X1_litSize : GoodIn wsX1_arrange (wsV RX1 56 RX1 yX1_litSize wsX1_litSize) := goodIn_app (goodIn_of _ (by decide +kernel)) ggX1_arrange_X1_litSize
theorem dX1_arrange_0 : decode cX1_arrange 0 = .ok (.iload_n 1, 1) := by decide +kernel
theorem dX1_arrange_1 : decode cX1_arrange 1 = .ok (.ifCond .lt 8, 3) := by decide +kernel
theorem dX1_arrange_4 : decode cX1_arrange 4 = .ok (.iload_n 1, 1) := by decide +kernel
theorem dX1_arrange_5 : decode cX1_arrange 5 = .ok (.iconst 3, 1) := by decide +kernel
theorem dX1_arrange_6 : decode cX1_arrange 6 = .ok (.if_icmp .le 5, 3) := by decide +kernel
theorem dX1_arrange_9 : decode cX1_arrange 9 = .ok (.iconst (-1), 1) := by decide +kernel
theorem dX1_arrange_10 : decode cX1_arrange 10 = .ok (.ireturn, 1) := by decide +kernel
theorem dX1_arrange_11 : decode cX1_arrange 11 = .ok (.iconst 0, 1) := by decide +kernel
theorem dX1_arrange_12 : decode cX1_arrange 12 = .ok (.istore_n 2, 1) := by decide +kernel
theorem dX1_arrange_13 : decode cX1_arrange 13 = .ok (.iconst 0, 1) := by decide +kernel
theorem dX1_arrange_14 : decode cX1_arrange 14 = .ok (.istore_n 3, 1) := by decide +kernel
theorem dX1_arrange_15 : decode cX1_arrange 15 = .ok (.iload_n 3, 1) := by decide +kernel
theorem dX1_arrange_16 : decode cX1_arrange 16 = .ok (.aload_n 0, 1) := by decide +kernel
theorem dX1_arrange_17 : decode cX1_arrange 17 = .ok (.getfield 31, 3) := by decide +kernel
theorem dX1_arrange_20 : decode cX1_arrange 20 = .ok (.if_icmp .ge 79, 3) := by decide +kernel
theorem dX1_arrange_23 : decode cX1_arrange 23 = .ok (.iload_n 3, 1) := by decide +kernel
theorem dX1_arrange_24 : decode cX1_arrange 24 = .ok (.istore 4, 2) := by decide +kernel
theorem dX1_arrange_26 : decode cX1_arrange 26 = .ok (.iload_n 3, 1) := by decide +kernel
theorem dX1_arrange_27 : decode cX1_arrange 27 = .ok (.iconst 1, 1) := by decide +kernel
theorem dX1_arrange_28 : decode cX1_arrange 28 = .ok (.iadd, 1) := by decide +kernel
theorem dX1_arrange_29 : decode cX1_arrange 29 = .ok (.istore 5, 2) := by decide +kernel
theorem dX1_arrange_31 : decode cX1_arrange 31 = .ok (.iload 5, 2) := by decide +kernel
theorem dX1_arrange_33 : decode cX1_arrange 33 = .ok (.aload_n 0, 1) := by decide +kernel
theorem dX1_arrange_34 : decode cX1_arrange 34 = .ok (.getfield 31, 3) := by decide +kernel
theorem dX1_arrange_37 : decode cX1_arrange 37 = .ok (.if_icmp .ge 42, 3) := by decide +kernel
theorem dX1_arrange_40 : decode cX1_arrange 40 = .ok (.aload_n 0, 1) := by decide +kernel
theorem dX1_arrange_41 : decode cX1_arrange 41 = .ok (.iload_n 1, 1) := by decide +kernel
theorem dX1_arrange_42 : decode cX1_arrange 42 = .ok (.aload_n 0, 1) := by decide +kernel
theorem dX1_arrange_43 : decode cX1_arrange 43 = .ok (.getfield 15, 3) := by decide +kernel
theorem dX1_arrange_46 : decode cX1_arrange 46 = .ok (.iload 5, 2) := by decide +kernel
theorem dX1_arrange_48 : decode cX1_arrange 48 = .ok (.iaload, 1) := by decide +kernel
theorem dX1_arrange_49 : decode cX1_arrange 49 = .ok (.iload_n 2, 1) := by decide +kernel
theorem dX1_arrange_50 : decode cX1_arrange 50 = .ok (.invokevirtual 60, 3) := by decide +kernel
theorem dX1_arrange_53 : decode cX1_arrange 53 = .ok (.aload_n 0, 1) := by decide +kernel
theorem dX1_arrange_54 : decode cX1_arrange 54 = .ok (.iload_n 1, 1) := by decide +kernel
theorem dX1_arrange_55 : decode cX1_arrange 55 = .ok (.aload_n 0, 1) := by decide +kernel
theorem dX1_arrange_56 : decode cX1_arrange 56 = .ok (.getfield 15, 3) := by decide +kernel
theorem dX1_arrange_59 : decode cX1_arrange 59 = .ok (.iload 4, 2) := by decide +kernel
theorem dX1_arrange_61 : decode cX1_arrange 61 = .ok (.iaload, 1) := by decide +kernel
theorem dX1_arrange_62 : decode cX1_arrange 62 = .ok (.iload_n 2, 1) := by decide +kernel
theorem dX1_arrange_63 : decode cX1_arrange 63 = .ok (.invokevirtual 60, 3) := by decide +kernel
theorem dX1_arrange_66 : decode cX1_arrange 66 = .ok (.if_icmp .ge 7, 3) := by decide +kernel
theorem dX1_arrange_69 : decode cX1_arrange 69 = .ok (.iload 5, 2) := by decide +kernel
theorem dX1_arrange_71 : decode cX1_arrange 71 = .ok (.istore 4, 2) := by decide +kernel
theorem dX1_arrange_73 : decode cX1_arrange 73 = .ok (.iinc 5 1, 3) := by decide +kernel
theorem dX1_arrange_76 : decode cX1_arrange 76 = .ok (.goto (-45), 3) := by decide +kernel
theorem dX1_arrange_79 : decode cX1_arrange 79 = .ok (.aload_n 0, 1) := by decide +kernel
theorem dX1_arrange_80 : decode cX1_arrange 80 = .ok (.iload_n 3, 1) := by decide +kernel
theorem dX1_arrange_81 : decode cX1_arrange 81 = .ok (.iload 4, 2) := by decide +kernel
theorem dX1_arrange_83 : decode cX1_arrange 83 = .ok (.invokevirtual 52, 3) := by decide +kernel
theorem dX1_arrange_86 : decode cX1_arrange 86 = .ok (.aload_n 0, 1) := by decide +kernel
theorem dX1_arrange_87 : decode cX1_arrange 87 = .ok (.getfield 15, 3) := by decide +kernel
theorem dX1_arrange_90 : decode cX1_arrange 90 = .ok (.iload_n 3, 1) := by decide +kernel
theorem dX1_arrange_91 : decode cX1_arrange 91 = .ok (.iaload, 1) := by decide +kernel
theorem dX1_arrange_92 : decode cX1_arrange 92 = .ok (.istore_n 2, 1) := by decide +kernel
theorem dX1_arrange_93 : decode cX1_arrange 93 = .ok (.iinc 3 1, 3) := by decide +kernel
theorem dX1_arrange_96 : decode cX1_arrange 96 = .ok (.goto (-81), 3) := by decide +kernel
theorem dX1_arrange_99 : decode cX1_arrange 99 = .ok (.aload_n 0, 1) := by decide +kernel
theorem dX1_arrange_100 : decode cX1_arrange 100 = .ok (.invokevirtual 56, 3) := by decide +kernel
theorem dX1_arrange_103 : decode cX1_arrange 103 = .ok (.ireturn, 1) := by decide +kernel
set_option maxRecDepth 20000 in
theorem ggX1_rank_X4_bit : GoodIn wsX1_rank wsX4_bit := goodIn_r _ [5] (by decide +kernel) (by decide +kernel)
set_option maxRecDepth 20000 in
theorem gX1_rank_X4_bit_n64 : GoodIn wsX1_rank (wsX4_bit) := ggX1_rank_X4_bit
set_option maxRecDepth 20000 in
theorem ggX1_rank_X4_way : GoodIn wsX1_rank wsX4_way := goodIn_r _ [7, 8, 9, 10, 11] (by decide +kernel) (by decide +kernel)
set_option maxRecDepth 20000 in
theorem gX1_rank_X4_way_n68 : GoodIn wsX1_rank (wsX4_way) := ggX1_rank_X4_way
set_option maxRecDepth 20000 in
theorem ggX1_rank_X4_ticksAbove : GoodIn wsX1_rank wsX4_ticksAbove := goodIn_r _ [13, 14, 15, 4, 16, 17, 18, 10, 19] (by decide +kernel) (by decide +kernel)
set_option maxRecDepth 20000 in
theorem gX1_rank_X4_ticksAbove_n72 : GoodIn wsX1_rank (wsX4_ticksAbove) := ggX1_rank_X4_ticksAbove
theorem dX1_rank_0 : decode cX1_rank 0 = .ok (.iload_n 1, 1) := by decide +kernel
theorem dX1_rank_1 : decode cX1_rank 1 = .ok (.tableswitch 70 0 2 #[27, 29, 54], 27) := by decide +kernel
theorem dX1_rank_28 : decode cX1_rank 28 = .ok (.iload_n 2, 1) := by decide +kernel
theorem dX1_rank_29 : decode cX1_rank 29 = .ok (.ireturn, 1) := by decide +kernel
theorem dX1_rank_30 : decode cX1_rank 30 = .ok (.aload_n 0, 1) := by decide +kernel
theorem dX1_rank_31 : decode cX1_rank 31 = .ok (.getfield 18, 3) := by decide +kernel
theorem dX1_rank_34 : decode cX1_rank 34 = .ok (.iconst 1, 1) := by decide +kernel
theorem dX1_rank_35 : decode cX1_rank 35 = .ok (.laload, 1) := by decide +kernel
theorem dX1_rank_36 : decode cX1_rank 36 = .ok (.iload_n 2, 1) := by decide +kernel
theorem dX1_rank_37 : decode cX1_rank 37 = .ok (.invokestatic 64, 3) := by decide +kernel
theorem dX1_rank_40 : decode cX1_rank 40 = .ok (.bipush 15, 2) := by decide +kernel
theorem dX1_rank_42 : decode cX1_rank 42 = .ok (.imul, 1) := by decide +kernel
theorem dX1_rank_43 : decode cX1_rank 43 = .ok (.iconst 0, 1) := by decide +kernel
theorem dX1_rank_44 : decode cX1_rank 44 = .ok (.iload_n 2, 1) := by decide +kernel
theorem dX1_rank_45 : decode cX1_rank 45 = .ok (.invokestatic 68, 3) := by decide +kernel
theorem dX1_rank_48 : decode cX1_rank 48 = .ok (.iadd, 1) := by decide +kernel
theorem dX1_rank_49 : decode cX1_rank 49 = .ok (.bipush 64, 2) := by decide +kernel
theorem dX1_rank_51 : decode cX1_rank 51 = .ok (.imul, 1) := by decide +kernel
theorem dX1_rank_52 : decode cX1_rank 52 = .ok (.iload_n 2, 1) := by decide +kernel
theorem dX1_rank_53 : decode cX1_rank 53 = .ok (.iadd, 1) := by decide +kernel
theorem dX1_rank_54 : decode cX1_rank 54 = .ok (.ireturn, 1) := by decide +kernel
theorem dX1_rank_55 : decode cX1_rank 55 = .ok (.aload_n 0, 1) := by decide +kernel
theorem dX1_rank_56 : decode cX1_rank 56 = .ok (.getfield 9, 3) := by decide +kernel
theorem dX1_rank_59 : decode cX1_rank 59 = .ok (.iload_n 2, 1) := by decide +kernel
theorem dX1_rank_60 : decode cX1_rank 60 = .ok (.iaload, 1) := by decide +kernel
theorem dX1_rank_61 : decode cX1_rank 61 = .ok (.iconst 1, 1) := by decide +kernel
theorem dX1_rank_62 : decode cX1_rank 62 = .ok (.invokestatic 72, 3) := by decide +kernel
theorem dX1_rank_65 : decode cX1_rank 65 = .ok (.bipush 64, 2) := by decide +kernel
theorem dX1_rank_67 : decode cX1_rank 67 = .ok (.imul, 1) := by decide +kernel
theorem dX1_rank_68 : decode cX1_rank 68 = .ok (.iload_n 2, 1) := by decide +kernel
theorem dX1_rank_69 : decode cX1_rank 69 = .ok (.iadd, 1) := by decide +kernel
theorem dX1_rank_70 : decode cX1_rank 70 = .ok (.ireturn, 1) := by decide +kernel
theorem dX1_rank_71 : decode cX1_rank 71 = .ok (.iload_n 3, 1) := by decide +kernel
theorem dX1_rank_72 : decode cX1_rank 72 = .ok (.iload_n 2, 1) := by decide +kernel
theorem dX1_rank_73 : decode cX1_rank 73 = .ok (.invokestatic 68, 3) := by decide +kernel
theorem dX1_rank_76 : decode cX1_rank 76 = .ok (.bipush 64, 2) := by decide +kernel
theorem dX1_rank_78 : decode cX1_rank 78 = .ok (.imul, 1) := by decide +kernel
theorem dX1_rank_79 : decode cX1_rank 79 = .ok (.iload_n 2, 1) := by decide +kernel
theorem dX1_rank_80 : decode cX1_rank 80 = .ok (.iadd, 1) := by decide +kernel
theorem dX1_rank_81 : decode cX1_rank 81 = .ok (.ireturn, 1) := by decide +kernel
set_option maxRecDepth 20000 in
theorem ggX1_paint_X4_isSpot : GoodIn wsX1_paint wsX4_isSpot := goodIn_r _ [5] (by decide +kernel) (by decide +kernel)
set_option maxRecDepth 20000 in
theorem gX1_paint_X4_isSpot_n41 : GoodIn wsX1_paint (wsX4_isSpot) := ggX1_paint_X4_isSpot
set_option maxRecDepth 20000 in
theorem ggX1_paint_J13_bitCount_95d88 : GoodIn wsX1_paint wsJ13_bitCount_95d88 := goodIn_r _ [9, 10, 11, 12] (by decide +kernel) (by decide +kernel)
set_option maxRecDepth 20000 in
theorem gX1_paint_J13_bitCount_95d88 : GoodIn wsX1_paint (va_wsS RX1 77 yJ13_bitCount_95d88 wsJ13_bitCount_95d88) := goodIn_app (goodIn_of _ (by decide +kernel)) ggX1_paint_J13_bitCount_95d88
theorem dX1_paint_0 : decode cX1_paint 0 = .ok (.iload_n 1, 1) := by decide +kernel
theorem dX1_paint_1 : decode cX1_paint 1 = .ok (.ifCond .lt 24, 3) := by decide +kernel
theorem dX1_paint_4 : decode cX1_paint 4 = .ok (.iload_n 1, 1) := by decide +kernel
theorem dX1_paint_5 : decode cX1_paint 5 = .ok (.iconst 2, 1) := by decide +kernel
theorem dX1_paint_6 : decode cX1_paint 6 = .ok (.if_icmp .ge 19, 3) := by decide +kernel
theorem dX1_paint_9 : decode cX1_paint 9 = .ok (.iload_n 2, 1) := by decide +kernel
theorem dX1_paint_10 : decode cX1_paint 10 = .ok (.invokestatic 41, 3) := by decide +kernel
theorem dX1_paint_13 : decode cX1_paint 13 = .ok (.ifCond .eq 12, 3) := by decide +kernel
theorem dX1_paint_16 : decode cX1_paint 16 = .ok (.iload_n 3, 1) := by decide +kernel
theorem dX1_paint_17 : decode cX1_paint 17 = .ok (.ifCond .lt 8, 3) := by decide +kernel
theorem dX1_paint_20 : decode cX1_paint 20 = .ok (.iload_n 3, 1) := by decide +kernel
theorem dX1_paint_21 : decode cX1_paint 21 = .ok (.iconst 1, 1) := by decide +kernel
theorem dX1_paint_22 : decode cX1_paint 22 = .ok (.if_icmp .le 5, 3) := by decide +kernel
theorem dX1_paint_25 : decode cX1_paint 25 = .ok (.iconst (-1), 1) := by decide +kernel
theorem dX1_paint_26 : decode cX1_paint 26 = .ok (.ireturn, 1) := by decide +kernel
theorem dX1_paint_27 : decode cX1_paint 27 = .ok (.iload_n 3, 1) := by decide +kernel
theorem dX1_paint_28 : decode cX1_paint 28 = .ok (.iconst 1, 1) := by decide +kernel
theorem dX1_paint_29 : decode cX1_paint 29 = .ok (.if_icmp .ne 18, 3) := by decide +kernel
theorem dX1_paint_32 : decode cX1_paint 32 = .ok (.aload_n 0, 1) := by decide +kernel
theorem dX1_paint_33 : decode cX1_paint 33 = .ok (.getfield 18, 3) := by decide +kernel
theorem dX1_paint_36 : decode cX1_paint 36 = .ok (.iload_n 1, 1) := by decide +kernel
theorem dX1_paint_37 : decode cX1_paint 37 = .ok (.dup2, 1) := by decide +kernel
theorem dX1_paint_38 : decode cX1_paint 38 = .ok (.laload, 1) := by decide +kernel
theorem dX1_paint_39 : decode cX1_paint 39 = .ok (.lconst 1, 1) := by decide +kernel
theorem dX1_paint_40 : decode cX1_paint 40 = .ok (.iload_n 2, 1) := by decide +kernel
theorem dX1_paint_41 : decode cX1_paint 41 = .ok (.lshl, 1) := by decide +kernel
theorem dX1_paint_42 : decode cX1_paint 42 = .ok (.lor, 1) := by decide +kernel
theorem dX1_paint_43 : decode cX1_paint 43 = .ok (.lastore, 1) := by decide +kernel
theorem dX1_paint_44 : decode cX1_paint 44 = .ok (.goto 19, 3) := by decide +kernel
theorem dX1_paint_47 : decode cX1_paint 47 = .ok (.aload_n 0, 1) := by decide +kernel
theorem dX1_paint_48 : decode cX1_paint 48 = .ok (.getfield 18, 3) := by decide +kernel
theorem dX1_paint_51 : decode cX1_paint 51 = .ok (.iload_n 1, 1) := by decide +kernel
theorem dX1_paint_52 : decode cX1_paint 52 = .ok (.dup2, 1) := by decide +kernel
theorem dX1_paint_53 : decode cX1_paint 53 = .ok (.laload, 1) := by decide +kernel
theorem dX1_paint_54 : decode cX1_paint 54 = .ok (.lconst 1, 1) := by decide +kernel
theorem dX1_paint_55 : decode cX1_paint 55 = .ok (.iload_n 2, 1) := by decide +kernel
theorem dX1_paint_56 : decode cX1_paint 56 = .ok (.lshl, 1) := by decide +kernel
theorem dX1_paint_57 : decode cX1_paint 57 = .ok (.ldc2_w 75, 3) := by decide +kernel
theorem dX1_paint_60 : decode cX1_paint 60 = .ok (.lxor, 1) := by decide +kernel
theorem dX1_paint_61 : decode cX1_paint 61 = .ok (.land, 1) := by decide +kernel
theorem dX1_paint_62 : decode cX1_paint 62 = .ok (.lastore, 1) := by decide +kernel
theorem dX1_paint_63 : decode cX1_paint 63 = .ok (.aload_n 0, 1) := by decide +kernel
theorem dX1_paint_64 : decode cX1_paint 64 = .ok (.getfield 18, 3) := by decide +kernel
theorem dX1_paint_67 : decode cX1_paint 67 = .ok (.iload_n 1, 1) := by decide +kernel
theorem dX1_paint_68 : decode cX1_paint 68 = .ok (.laload, 1) := by decide +kernel
theorem dX1_paint_69 : decode cX1_paint 69 = .ok (.invokestatic 77, 3) := by decide +kernel
theorem dX1_paint_72 : decode cX1_paint 72 = .ok (.ireturn, 1) := by decide +kernel
theorem dX1_positionOf_0 : decode cX1_positionOf 0 = .ok (.iconst 0, 1) := by decide +kernel
theorem dX1_positionOf_1 : decode cX1_positionOf 1 = .ok (.istore_n 2, 1) := by decide +kernel
theorem dX1_positionOf_2 : decode cX1_positionOf 2 = .ok (.iload_n 2, 1) := by decide +kernel
theorem dX1_positionOf_3 : decode cX1_positionOf 3 = .ok (.aload_n 0, 1) := by decide +kernel
theorem dX1_positionOf_4 : decode cX1_positionOf 4 = .ok (.getfield 31, 3) := by decide +kernel
theorem dX1_positionOf_7 : decode cX1_positionOf 7 = .ok (.if_icmp .ge 21, 3) := by decide +kernel
theorem dX1_positionOf_10 : decode cX1_positionOf 10 = .ok (.aload_n 0, 1) := by decide +kernel
theorem dX1_positionOf_11 : decode cX1_positionOf 11 = .ok (.getfield 15, 3) := by decide +kernel
theorem dX1_positionOf_14 : decode cX1_positionOf 14 = .ok (.iload_n 2, 1) := by decide +kernel
theorem dX1_positionOf_15 : decode cX1_positionOf 15 = .ok (.iaload, 1) := by decide +kernel
theorem dX1_positionOf_16 : decode cX1_positionOf 16 = .ok (.iload_n 1, 1) := by decide +kernel
theorem dX1_positionOf_17 : decode cX1_positionOf 17 = .ok (.if_icmp .ne 5, 3) := by decide +kernel
theorem dX1_positionOf_20 : decode cX1_positionOf 20 = .ok (.iload_n 2, 1) := by decide +kernel
theorem dX1_positionOf_21 : decode cX1_positionOf 21 = .ok (.ireturn, 1) := by decide +kernel
theorem dX1_positionOf_22 : decode cX1_positionOf 22 = .ok (.iinc 2 1, 3) := by decide +kernel
theorem dX1_positionOf_25 : decode cX1_positionOf 25 = .ok (.goto (-23), 3) := by decide +kernel
theorem dX1_positionOf_28 : decode cX1_positionOf 28 = .ok (.bipush (-9), 2) := by decide +kernel
theorem dX1_positionOf_30 : decode cX1_positionOf 30 = .ok (.ireturn, 1) := by decide +kernel
theorem dX1_spotsOfOrder_0 : decode cX1_spotsOfOrder 0 = .ok (.lconst 0, 1) := by decide +kernel
theorem dX1_spotsOfOrder_1 : decode cX1_spotsOfOrder 1 = .ok (.lstore_n 1, 1) := by decide +kernel
theorem dX1_spotsOfOrder_2 : decode cX1_spotsOfOrder 2 = .ok (.iconst 0, 1) := by decide +kernel
theorem dX1_spotsOfOrder_3 : decode cX1_spotsOfOrder 3 = .ok (.istore_n 3, 1) := by decide +kernel
theorem dX1_spotsOfOrder_4 : decode cX1_spotsOfOrder 4 = .ok (.iload_n 3, 1) := by decide +kernel
theorem dX1_spotsOfOrder_5 : decode cX1_spotsOfOrder 5 = .ok (.aload_n 0, 1) := by decide +kernel
theorem dX1_spotsOfOrder_6 : decode cX1_spotsOfOrder 6 = .ok (.getfield 31, 3) := by decide +kernel
theorem dX1_spotsOfOrder_9 : decode cX1_spotsOfOrder 9 = .ok (.if_icmp .ge 20, 3) := by decide +kernel
theorem dX1_spotsOfOrder_12 : decode cX1_spotsOfOrder 12 = .ok (.lload_n 1, 1) := by decide +kernel
theorem dX1_spotsOfOrder_13 : decode cX1_spotsOfOrder 13 = .ok (.lconst 1, 1) := by decide +kernel
theorem dX1_spotsOfOrder_14 : decode cX1_spotsOfOrder 14 = .ok (.aload_n 0, 1) := by decide +kernel
theorem dX1_spotsOfOrder_15 : decode cX1_spotsOfOrder 15 = .ok (.getfield 15, 3) := by decide +kernel
theorem dX1_spotsOfOrder_18 : decode cX1_spotsOfOrder 18 = .ok (.iload_n 3, 1) := by decide +kernel
theorem dX1_spotsOfOrder_19 : decode cX1_spotsOfOrder 19 = .ok (.iaload, 1) := by decide +kernel
theorem dX1_spotsOfOrder_20 : decode cX1_spotsOfOrder 20 = .ok (.lshl, 1) := by decide +kernel
theorem dX1_spotsOfOrder_21 : decode cX1_spotsOfOrder 21 = .ok (.lor, 1) := by decide +kernel
theorem dX1_spotsOfOrder_22 : decode cX1_spotsOfOrder 22 = .ok (.lstore_n 1, 1) := by decide +kernel
theorem dX1_spotsOfOrder_23 : decode cX1_spotsOfOrder 23 = .ok (.iinc 3 1, 3) := by decide +kernel
theorem dX1_spotsOfOrder_26 : decode cX1_spotsOfOrder 26 = .ok (.goto (-22), 3) := by decide +kernel
theorem dX1_spotsOfOrder_29 : decode cX1_spotsOfOrder 29 = .ok (.lload_n 1, 1) := by decide +kernel
theorem dX1_spotsOfOrder_30 : decode cX1_spotsOfOrder 30 = .ok (.lreturn, 1) := by decide +kernel
set_option maxRecDepth 20000 in
theorem ggX1_sumOfWays_X4_way : GoodIn wsX1_sumOfWays wsX4_way := goodIn_r _ [5, 6, 7, 8, 9] (by decide +kernel) (by decide +kernel)
set_option maxRecDepth 20000 in
theorem gX1_sumOfWays_X4_way_n68 : GoodIn wsX1_sumOfWays (wsX4_way) := ggX1_sumOfWays_X4_way
theorem dX1_sumOfWays_0 : decode cX1_sumOfWays 0 = .ok (.iconst 0, 1) := by decide +kernel
theorem dX1_sumOfWays_1 : decode cX1_sumOfWays 1 = .ok (.istore_n 1, 1) := by decide +kernel
theorem dX1_sumOfWays_2 : decode cX1_sumOfWays 2 = .ok (.iconst 0, 1) := by decide +kernel
theorem dX1_sumOfWays_3 : decode cX1_sumOfWays 3 = .ok (.istore_n 2, 1) := by decide +kernel
theorem dX1_sumOfWays_4 : decode cX1_sumOfWays 4 = .ok (.iconst 0, 1) := by decide +kernel
theorem dX1_sumOfWays_5 : decode cX1_sumOfWays 5 = .ok (.istore_n 3, 1) := by decide +kernel
theorem dX1_sumOfWays_6 : decode cX1_sumOfWays 6 = .ok (.iload_n 3, 1) := by decide +kernel
theorem dX1_sumOfWays_7 : decode cX1_sumOfWays 7 = .ok (.aload_n 0, 1) := by decide +kernel
theorem dX1_sumOfWays_8 : decode cX1_sumOfWays 8 = .ok (.getfield 31, 3) := by decide +kernel
theorem dX1_sumOfWays_11 : decode cX1_sumOfWays 11 = .ok (.if_icmp .ge 29, 3) := by decide +kernel
theorem dX1_sumOfWays_14 : decode cX1_sumOfWays 14 = .ok (.iload_n 1, 1) := by decide +kernel
theorem dX1_sumOfWays_15 : decode cX1_sumOfWays 15 = .ok (.iload_n 2, 1) := by decide +kernel
theorem dX1_sumOfWays_16 : decode cX1_sumOfWays 16 = .ok (.aload_n 0, 1) := by decide +kernel
theorem dX1_sumOfWays_17 : decode cX1_sumOfWays 17 = .ok (.getfield 15, 3) := by decide +kernel
theorem dX1_sumOfWays_20 : decode cX1_sumOfWays 20 = .ok (.iload_n 3, 1) := by decide +kernel
theorem dX1_sumOfWays_21 : decode cX1_sumOfWays 21 = .ok (.iaload, 1) := by decide +kernel
theorem dX1_sumOfWays_22 : decode cX1_sumOfWays 22 = .ok (.invokestatic 68, 3) := by decide +kernel
theorem dX1_sumOfWays_25 : decode cX1_sumOfWays 25 = .ok (.iadd, 1) := by decide +kernel
theorem dX1_sumOfWays_26 : decode cX1_sumOfWays 26 = .ok (.istore_n 1, 1) := by decide +kernel
theorem dX1_sumOfWays_27 : decode cX1_sumOfWays 27 = .ok (.aload_n 0, 1) := by decide +kernel
theorem dX1_sumOfWays_28 : decode cX1_sumOfWays 28 = .ok (.getfield 15, 3) := by decide +kernel
theorem dX1_sumOfWays_31 : decode cX1_sumOfWays 31 = .ok (.iload_n 3, 1) := by decide +kernel
theorem dX1_sumOfWays_32 : decode cX1_sumOfWays 32 = .ok (.iaload, 1) := by decide +kernel
theorem dX1_sumOfWays_33 : decode cX1_sumOfWays 33 = .ok (.istore_n 2, 1) := by decide +kernel
theorem dX1_sumOfWays_34 : decode cX1_sumOfWays 34 = .ok (.iinc 3 1, 3) := by decide +kernel
theorem dX1_sumOfWays_37 : decode cX1_sumOfWays 37 = .ok (.goto (-31), 3) := by decide +kernel
theorem dX1_sumOfWays_40 : decode cX1_sumOfWays 40 = .ok (.iload_n 1, 1) := by decide +kernel
theorem dX1_sumOfWays_41 : decode cX1_sumOfWays 41 = .ok (.ireturn, 1) := by decide +kernel
set_option maxRecDepth 20000 in
theorem ggX1_arrival_X4_way : GoodIn wsX1_arrival wsX4_way := goodIn_r _ [6, 7, 8, 9, 10] (by decide +kernel) (by decide +kernel)
set_option maxRecDepth 20000 in
theorem gX1_arrival_X4_way_n68 : GoodIn wsX1_arrival (wsX4_way) := ggX1_arrival_X4_way
theorem dX1_arrival_0 : decode cX1_arrival 0 = .ok (.iconst 0, 1) := by decide +kernel
theorem dX1_arrival_1 : decode cX1_arrival 1 = .ok (.istore_n 2, 1) := by decide +kernel
theorem dX1_arrival_2 : decode cX1_arrival 2 = .ok (.iconst 0, 1) := by decide +kernel
theorem dX1_arrival_3 : decode cX1_arrival 3 = .ok (.istore_n 3, 1) := by decide +kernel
theorem dX1_arrival_4 : decode cX1_arrival 4 = .ok (.iconst 0, 1) := by decide +kernel
theorem dX1_arrival_5 : decode cX1_arrival 5 = .ok (.istore 4, 2) := by decide +kernel
theorem dX1_arrival_7 : decode cX1_arrival 7 = .ok (.iload 4, 2) := by decide +kernel
theorem dX1_arrival_9 : decode cX1_arrival 9 = .ok (.iload_n 1, 1) := by decide +kernel
theorem dX1_arrival_10 : decode cX1_arrival 10 = .ok (.if_icmp .gt 49, 3) := by decide +kernel
theorem dX1_arrival_13 : decode cX1_arrival 13 = .ok (.iload 4, 2) := by decide +kernel
theorem dX1_arrival_15 : decode cX1_arrival 15 = .ok (.aload_n 0, 1) := by decide +kernel
theorem dX1_arrival_16 : decode cX1_arrival 16 = .ok (.getfield 31, 3) := by decide +kernel
theorem dX1_arrival_19 : decode cX1_arrival 19 = .ok (.if_icmp .ge 40, 3) := by decide +kernel
theorem dX1_arrival_22 : decode cX1_arrival 22 = .ok (.iload_n 2, 1) := by decide +kernel
theorem dX1_arrival_23 : decode cX1_arrival 23 = .ok (.iload_n 3, 1) := by decide +kernel
theorem dX1_arrival_24 : decode cX1_arrival 24 = .ok (.aload_n 0, 1) := by decide +kernel
theorem dX1_arrival_25 : decode cX1_arrival 25 = .ok (.getfield 15, 3) := by decide +kernel
theorem dX1_arrival_28 : decode cX1_arrival 28 = .ok (.iload 4, 2) := by decide +kernel
theorem dX1_arrival_30 : decode cX1_arrival 30 = .ok (.iaload, 1) := by decide +kernel
theorem dX1_arrival_31 : decode cX1_arrival 31 = .ok (.invokestatic 68, 3) := by decide +kernel
theorem dX1_arrival_34 : decode cX1_arrival 34 = .ok (.aload_n 0, 1) := by decide +kernel
theorem dX1_arrival_35 : decode cX1_arrival 35 = .ok (.getfield 22, 3) := by decide +kernel
theorem dX1_arrival_38 : decode cX1_arrival 38 = .ok (.iconst 1, 1) := by decide +kernel
theorem dX1_arrival_39 : decode cX1_arrival 39 = .ok (.iaload, 1) := by decide +kernel
theorem dX1_arrival_40 : decode cX1_arrival 40 = .ok (.imul, 1) := by decide +kernel
theorem dX1_arrival_41 : decode cX1_arrival 41 = .ok (.iconst 1, 1) := by decide +kernel
theorem dX1_arrival_42 : decode cX1_arrival 42 = .ok (.iadd, 1) := by decide +kernel
theorem dX1_arrival_43 : decode cX1_arrival 43 = .ok (.iadd, 1) := by decide +kernel
theorem dX1_arrival_44 : decode cX1_arrival 44 = .ok (.istore_n 2, 1) := by decide +kernel
theorem dX1_arrival_45 : decode cX1_arrival 45 = .ok (.aload_n 0, 1) := by decide +kernel
theorem dX1_arrival_46 : decode cX1_arrival 46 = .ok (.getfield 15, 3) := by decide +kernel
theorem dX1_arrival_49 : decode cX1_arrival 49 = .ok (.iload 4, 2) := by decide +kernel
theorem dX1_arrival_51 : decode cX1_arrival 51 = .ok (.iaload, 1) := by decide +kernel
theorem dX1_arrival_52 : decode cX1_arrival 52 = .ok (.istore_n 3, 1) := by decide +kernel
theorem dX1_arrival_53 : decode cX1_arrival 53 = .ok (.iinc 4 1, 3) := by decide +kernel
theorem dX1_arrival_56 : decode cX1_arrival 56 = .ok (.goto (-49), 3) := by decide +kernel
theorem dX1_arrival_59 : decode cX1_arrival 59 = .ok (.iload_n 2, 1) := by decide +kernel
theorem dX1_arrival_60 : decode cX1_arrival 60 = .ok (.ireturn, 1) := by decide +kernel
set_option maxRecDepth 20000 in
theorem ggX1_litSize_X1_arrival : GoodIn wsX1_litSize wsX1_arrival := goodIn_r _ [7, 1, 8, 2, 9, 10, 11, 12, 13, 14, 15, 16, 17, 18, 19, 20] (by decide +kernel) (by decide +kernel)
set_option maxRecDepth 20000 in
theorem gX1_litSize_X1_arrival : GoodIn wsX1_litSize (wsV RX1 83 RX1 yX1_arrival wsX1_arrival) := goodIn_app (goodIn_of _ (by decide +kernel)) ggX1_litSize_X1_arrival
theorem dX1_litSize_0 : decode cX1_litSize 0 = .ok (.iconst 0, 1) := by decide +kernel
theorem dX1_litSize_1 : decode cX1_litSize 1 = .ok (.istore_n 1, 1) := by decide +kernel
theorem dX1_litSize_2 : decode cX1_litSize 2 = .ok (.iload_n 1, 1) := by decide +kernel
theorem dX1_litSize_3 : decode cX1_litSize 3 = .ok (.aload_n 0, 1) := by decide +kernel
theorem dX1_litSize_4 : decode cX1_litSize 4 = .ok (.getfield 31, 3) := by decide +kernel
theorem dX1_litSize_7 : decode cX1_litSize 7 = .ok (.if_icmp .ge 23, 3) := by decide +kernel
theorem dX1_litSize_10 : decode cX1_litSize 10 = .ok (.aload_n 0, 1) := by decide +kernel
theorem dX1_litSize_11 : decode cX1_litSize 11 = .ok (.iload_n 1, 1) := by decide +kernel
theorem dX1_litSize_12 : decode cX1_litSize 12 = .ok (.invokevirtual 83, 3) := by decide +kernel
theorem dX1_litSize_15 : decode cX1_litSize 15 = .ok (.aload_n 0, 1) := by decide +kernel
theorem dX1_litSize_16 : decode cX1_litSize 16 = .ok (.getfield 22, 3) := by decide +kernel
theorem dX1_litSize_19 : decode cX1_litSize 19 = .ok (.iconst 0, 1) := by decide +kernel
theorem dX1_litSize_20 : decode cX1_litSize 20 = .ok (.iaload, 1) := by decide +kernel
theorem dX1_litSize_21 : decode cX1_litSize 21 = .ok (.if_icmp .ge 9, 3) := by decide +kernel
theorem dX1_litSize_24 : decode cX1_litSize 24 = .ok (.iinc 1 1, 3) := by decide +kernel
theorem dX1_litSize_27 : decode cX1_litSize 27 = .ok (.goto (-25), 3) := by decide +kernel
theorem dX1_litSize_30 : decode cX1_litSize 30 = .ok (.iload_n 1, 1) := by decide +kernel
theorem dX1_litSize_31 : decode cX1_litSize 31 = .ok (.ireturn, 1) := by decide +kernel
set_option maxRecDepth 20000 in
theorem ggX1_litTick_X1_positionOf : GoodIn wsX1_litTick wsX1_positionOf := goodIn_r _ [6, 7, 8, 20, 21, 22, 23, 24] (by decide +kernel) (by decide +kernel)
set_option maxRecDepth 20000 in
theorem gX1_litTick_X1_positionOf : GoodIn wsX1_litTick (wsV RX1 48 RX1 yX1_positionOf wsX1_positionOf) := goodIn_app (goodIn_of _ (by decide +kernel)) ggX1_litTick_X1_positionOf
set_option maxRecDepth 20000 in
theorem ggX1_litTick_X1_arrival : GoodIn wsX1_litTick wsX1_arrival := goodIn_r _ [12, 7, 8, 1, 13, 14, 15, 16, 17, 18, 19, 20, 21, 22, 23, 24] (by decide +kernel) (by decide +kernel)
set_option maxRecDepth 20000 in
theorem gX1_litTick_X1_arrival : GoodIn wsX1_litTick (wsV RX1 83 RX1 yX1_arrival wsX1_arrival) := goodIn_app (goodIn_of _ (by decide +kernel)) ggX1_litTick_X1_arrival
theorem dX1_litTick_0 : decode cX1_litTick 0 = .ok (.aload_n 0, 1) := by decide +kernel
theorem dX1_litTick_1 : decode cX1_litTick 1 = .ok (.iload_n 1, 1) := by decide +kernel
theorem dX1_litTick_2 : decode cX1_litTick 2 = .ok (.invokevirtual 48, 3) := by decide +kernel
theorem dX1_litTick_5 : decode cX1_litTick 5 = .ok (.istore_n 2, 1) := by decide +kernel
theorem dX1_litTick_6 : decode cX1_litTick 6 = .ok (.iload_n 2, 1) := by decide +kernel
theorem dX1_litTick_7 : decode cX1_litTick 7 = .ok (.bipush (-9), 2) := by decide +kernel
theorem dX1_litTick_9 : decode cX1_litTick 9 = .ok (.if_icmp .eq 17, 3) := by decide +kernel
theorem dX1_litTick_12 : decode cX1_litTick 12 = .ok (.aload_n 0, 1) := by decide +kernel
theorem dX1_litTick_13 : decode cX1_litTick 13 = .ok (.iload_n 2, 1) := by decide +kernel
theorem dX1_litTick_14 : decode cX1_litTick 14 = .ok (.invokevirtual 83, 3) := by decide +kernel
theorem dX1_litTick_17 : decode cX1_litTick 17 = .ok (.aload_n 0, 1) := by decide +kernel
theorem dX1_litTick_18 : decode cX1_litTick 18 = .ok (.getfield 22, 3) := by decide +kernel
theorem dX1_litTick_21 : decode cX1_litTick 21 = .ok (.iconst 0, 1) := by decide +kernel
theorem dX1_litTick_22 : decode cX1_litTick 22 = .ok (.iaload, 1) := by decide +kernel
theorem dX1_litTick_23 : decode cX1_litTick 23 = .ok (.if_icmp .lt 6, 3) := by decide +kernel
theorem dX1_litTick_26 : decode cX1_litTick 26 = .ok (.bipush (-9), 2) := by decide +kernel
theorem dX1_litTick_28 : decode cX1_litTick 28 = .ok (.ireturn, 1) := by decide +kernel
theorem dX1_litTick_29 : decode cX1_litTick 29 = .ok (.aload_n 0, 1) := by decide +kernel
theorem dX1_litTick_30 : decode cX1_litTick 30 = .ok (.iload_n 2, 1) := by decide +kernel
theorem dX1_litTick_31 : decode cX1_litTick 31 = .ok (.invokevirtual 83, 3) := by decide +kernel
theorem dX1_litTick_34 : decode cX1_litTick 34 = .ok (.ireturn, 1) := by decide +kernel
set_option maxRecDepth 20000 in
theorem ggX1_shine_X4_glow : GoodIn wsX1_shine wsX4_glow := goodIn_r _ [5, 6, 7, 8, 9] (by decide +kernel) (by decide +kernel)
set_option maxRecDepth 20000 in
theorem gX1_shine_X4_glow_n86 : GoodIn wsX1_shine (wsX4_glow) := ggX1_shine_X4_glow
theorem dX1_shine_0 : decode cX1_shine 0 = .ok (.iload_n 2, 1) := by decide +kernel
theorem dX1_shine_1 : decode cX1_shine 1 = .ok (.bipush (-9), 2) := by decide +kernel
theorem dX1_shine_3 : decode cX1_shine 3 = .ok (.if_icmp .ne 5, 3) := by decide +kernel
theorem dX1_shine_6 : decode cX1_shine 6 = .ok (.iconst 0, 1) := by decide +kernel
theorem dX1_shine_7 : decode cX1_shine 7 = .ok (.ireturn, 1) := by decide +kernel
theorem dX1_shine_8 : decode cX1_shine 8 = .ok (.iload_n 3, 1) := by decide +kernel
theorem dX1_shine_9 : decode cX1_shine 9 = .ok (.iload_n 2, 1) := by decide +kernel
theorem dX1_shine_10 : decode cX1_shine 10 = .ok (.isub, 1) := by decide +kernel
theorem dX1_shine_11 : decode cX1_shine 11 = .ok (.istore 4, 2) := by decide +kernel
theorem dX1_shine_13 : decode cX1_shine 13 = .ok (.aload_n 0, 1) := by decide +kernel
theorem dX1_shine_14 : decode cX1_shine 14 = .ok (.getfield 9, 3) := by decide +kernel
theorem dX1_shine_17 : decode cX1_shine 17 = .ok (.iload_n 1, 1) := by decide +kernel
theorem dX1_shine_18 : decode cX1_shine 18 = .ok (.iaload, 1) := by decide +kernel
theorem dX1_shine_19 : decode cX1_shine 19 = .ok (.iload 4, 2) := by decide +kernel
theorem dX1_shine_21 : decode cX1_shine 21 = .ok (.ifCond .ge 15, 3) := by decide +kernel
theorem dX1_shine_24 : decode cX1_shine 24 = .ok (.iload 4, 2) := by decide +kernel
theorem dX1_shine_26 : decode cX1_shine 26 = .ok (.aload_n 0, 1) := by decide +kernel
theorem dX1_shine_27 : decode cX1_shine 27 = .ok (.getfield 22, 3) := by decide +kernel
theorem dX1_shine_30 : decode cX1_shine 30 = .ok (.iconst 0, 1) := by decide +kernel
theorem dX1_shine_31 : decode cX1_shine 31 = .ok (.iaload, 1) := by decide +kernel
theorem dX1_shine_32 : decode cX1_shine 32 = .ok (.iadd, 1) := by decide +kernel
theorem dX1_shine_33 : decode cX1_shine 33 = .ok (.goto 5, 3) := by decide +kernel
theorem dX1_shine_36 : decode cX1_shine 36 = .ok (.iload 4, 2) := by decide +kernel
theorem dX1_shine_38 : decode cX1_shine 38 = .ok (.invokestatic 86, 3) := by decide +kernel
theorem dX1_shine_41 : decode cX1_shine 41 = .ok (.ireturn, 1) := by decide +kernel
set_option maxRecDepth 20000 in
theorem ggX1_sumOver_X1_litTick : GoodIn wsX1_sumOver wsX1_litTick := goodIn_r _ [5, 6, 7, 8, 9, 4, 10, 11, 12, 13, 14, 15, 16, 17, 18, 19, 20, 21, 22, 23, 38, 39, 40, 41, 42] (by decide +kernel) (by decide +kernel)
set_option maxRecDepth 20000 in
theorem gX1_sumOver_X1_litTick : GoodIn wsX1_sumOver (wsV RX1 89 RX1 yX1_litTick wsX1_litTick) := goodIn_app (goodIn_of _ (by decide +kernel)) ggX1_sumOver_X1_litTick
set_option maxRecDepth 20000 in
theorem ggX1_sumOver_X1_shine : GoodIn wsX1_sumOver wsX1_shine := goodIn_r _ [27, 28, 6, 29, 18, 30, 31, 32, 22, 33, 38, 39, 40, 41, 42] (by decide +kernel) (by decide +kernel)
set_option maxRecDepth 20000 in
theorem gX1_sumOver_X1_shine : GoodIn wsX1_sumOver (wsV RX1 92 RX1 yX1_shine wsX1_shine) := goodIn_app (goodIn_of _ (by decide +kernel)) ggX1_sumOver_X1_shine
set_option maxRecDepth 20000 in
theorem ggX1_sumOver_X1_next : GoodIn wsX1_sumOver wsX1_next := goodIn_r _ [37, 6, 38, 39, 40, 41, 42] (by decide +kernel) (by decide +kernel)
set_option maxRecDepth 20000 in
theorem gX1_sumOver_X1_next : GoodIn wsX1_sumOver (wsV RX1 95 RX1 yX1_next wsX1_next) := goodIn_app (goodIn_of _ (by decide +kernel)) ggX1_sumOver_X1_next
theorem dX1_sumOver_0 : decode cX1_sumOver 0 = .ok (.aload_n 0, 1) := by decide +kernel
theorem dX1_sumOver_1 : decode cX1_sumOver 1 = .ok (.iload_n 1, 1) := by decide +kernel
theorem dX1_sumOver_2 : decode cX1_sumOver 2 = .ok (.invokevirtual 89, 3) := by decide +kernel
theorem dX1_sumOver_5 : decode cX1_sumOver 5 = .ok (.istore 4, 2) := by decide +kernel
theorem dX1_sumOver_7 : decode cX1_sumOver 7 = .ok (.iconst 0, 1) := by decide +kernel
theorem dX1_sumOver_8 : decode cX1_sumOver 8 = .ok (.istore 5, 2) := by decide +kernel
theorem dX1_sumOver_10 : decode cX1_sumOver 10 = .ok (.iload_n 2, 1) := by decide +kernel
theorem dX1_sumOver_11 : decode cX1_sumOver 11 = .ok (.istore 6, 2) := by decide +kernel
theorem dX1_sumOver_13 : decode cX1_sumOver 13 = .ok (.iconst 0, 1) := by decide +kernel
theorem dX1_sumOver_14 : decode cX1_sumOver 14 = .ok (.istore 7, 2) := by decide +kernel
theorem dX1_sumOver_16 : decode cX1_sumOver 16 = .ok (.iload 7, 2) := by decide +kernel
theorem dX1_sumOver_18 : decode cX1_sumOver 18 = .ok (.iload_n 3, 1) := by decide +kernel
theorem dX1_sumOver_19 : decode cX1_sumOver 19 = .ok (.if_icmp .ge 31, 3) := by decide +kernel
theorem dX1_sumOver_22 : decode cX1_sumOver 22 = .ok (.iload 5, 2) := by decide +kernel
theorem dX1_sumOver_24 : decode cX1_sumOver 24 = .ok (.aload_n 0, 1) := by decide +kernel
theorem dX1_sumOver_25 : decode cX1_sumOver 25 = .ok (.iload_n 1, 1) := by decide +kernel
theorem dX1_sumOver_26 : decode cX1_sumOver 26 = .ok (.iload 4, 2) := by decide +kernel
theorem dX1_sumOver_28 : decode cX1_sumOver 28 = .ok (.iload 6, 2) := by decide +kernel
theorem dX1_sumOver_30 : decode cX1_sumOver 30 = .ok (.invokevirtual 92, 3) := by decide +kernel
theorem dX1_sumOver_33 : decode cX1_sumOver 33 = .ok (.iadd, 1) := by decide +kernel
theorem dX1_sumOver_34 : decode cX1_sumOver 34 = .ok (.istore 5, 2) := by decide +kernel
theorem dX1_sumOver_36 : decode cX1_sumOver 36 = .ok (.aload_n 0, 1) := by decide +kernel
theorem dX1_sumOver_37 : decode cX1_sumOver 37 = .ok (.iload 6, 2) := by decide +kernel
theorem dX1_sumOver_39 : decode cX1_sumOver 39 = .ok (.invokevirtual 95, 3) := by decide +kernel
theorem dX1_sumOver_42 : decode cX1_sumOver 42 = .ok (.istore 6, 2) := by decide +kernel
theorem dX1_sumOver_44 : decode cX1_sumOver 44 = .ok (.iinc 7 1, 3) := by decide +kernel
theorem dX1_sumOver_47 : decode cX1_sumOver 47 = .ok (.goto (-31), 3) := by decide +kernel
theorem dX1_sumOver_50 : decode cX1_sumOver 50 = .ok (.iload 5, 2) := by decide +kernel
theorem dX1_sumOver_52 : decode cX1_sumOver 52 = .ok (.ireturn, 1) := by decide +kernel
theorem dX1_next_0 : decode cX1_next 0 = .ok (.iload_n 1, 1) := by decide +kernel
theorem dX1_next_1 : decode cX1_next 1 = .ok (.iconst 1, 1) := by decide +kernel
theorem dX1_next_2 : decode cX1_next 2 = .ok (.iadd, 1) := by decide +kernel
theorem dX1_next_3 : decode cX1_next 3 = .ok (.aload_n 0, 1) := by decide +kernel
theorem dX1_next_4 : decode cX1_next 4 = .ok (.getfield 22, 3) := by decide +kernel
theorem dX1_next_7 : decode cX1_next 7 = .ok (.iconst 0, 1) := by decide +kernel
theorem dX1_next_8 : decode cX1_next 8 = .ok (.iaload, 1) := by decide +kernel
theorem dX1_next_9 : decode cX1_next 9 = .ok (.if_icmp .ge 9, 3) := by decide +kernel
theorem dX1_next_12 : decode cX1_next 12 = .ok (.iload_n 1, 1) := by decide +kernel
theorem dX1_next_13 : decode cX1_next 13 = .ok (.iconst 1, 1) := by decide +kernel
theorem dX1_next_14 : decode cX1_next 14 = .ok (.iadd, 1) := by decide +kernel
theorem dX1_next_15 : decode cX1_next 15 = .ok (.goto 4, 3) := by decide +kernel
theorem dX1_next_18 : decode cX1_next 18 = .ok (.iconst 0, 1) := by decide +kernel
theorem dX1_next_19 : decode cX1_next 19 = .ok (.ireturn, 1) := by decide +kernel
theorem dX1_startInFrame_0 : decode cX1_startInFrame 0 = .ok (.aload_n 0, 1) := by decide +kernel
theorem dX1_startInFrame_1 : decode cX1_startInFrame 1 = .ok (.getfield 22, 3) := by decide +kernel
theorem dX1_startInFrame_4 : decode cX1_startInFrame 4 = .ok (.iconst 0, 1) := by decide +kernel
theorem dX1_startInFrame_5 : decode cX1_startInFrame 5 = .ok (.iaload, 1) := by decide +kernel
theorem dX1_startInFrame_6 : decode cX1_startInFrame 6 = .ok (.istore_n 1, 1) := by decide +kernel
theorem dX1_startInFrame_7 : decode cX1_startInFrame 7 = .ok (.iload_n 1, 1) := by decide +kernel
theorem dX1_startInFrame_8 : decode cX1_startInFrame 8 = .ok (.ifCond .le 14, 3) := by decide +kernel
theorem dX1_startInFrame_11 : decode cX1_startInFrame 11 = .ok (.aload_n 0, 1) := by decide +kernel
theorem dX1_startInFrame_12 : decode cX1_startInFrame 12 = .ok (.getfield 22, 3) := by decide +kernel
theorem dX1_startInFrame_15 : decode cX1_startInFrame 15 = .ok (.iconst 3, 1) := by decide +kernel
theorem dX1_startInFrame_16 : decode cX1_startInFrame 16 = .ok (.iaload, 1) := by decide +kernel
theorem dX1_startInFrame_17 : decode cX1_startInFrame 17 = .ok (.iload_n 1, 1) := by decide +kernel
theorem dX1_startInFrame_18 : decode cX1_startInFrame 18 = .ok (.irem, 1) := by decide +kernel
theorem dX1_startInFrame_19 : decode cX1_startInFrame 19 = .ok (.goto 4, 3) := by decide +kernel
theorem dX1_startInFrame_22 : decode cX1_startInFrame 22 = .ok (.iconst 0, 1) := by decide +kernel
theorem dX1_startInFrame_23 : decode cX1_startInFrame 23 = .ok (.ireturn, 1) := by decide +kernel
theorem dX1_mean_0 : decode cX1_mean 0 = .ok (.iload_n 1, 1) := by decide +kernel
theorem dX1_mean_1 : decode cX1_mean 1 = .ok (.ifCond .le 9, 3) := by decide +kernel
theorem dX1_mean_4 : decode cX1_mean 4 = .ok (.iload_n 0, 1) := by decide +kernel
theorem dX1_mean_5 : decode cX1_mean 5 = .ok (.iload_n 1, 1) := by decide +kernel
theorem dX1_mean_6 : decode cX1_mean 6 = .ok (.idiv, 1) := by decide +kernel
theorem dX1_mean_7 : decode cX1_mean 7 = .ok (.goto 4, 3) := by decide +kernel
theorem dX1_mean_10 : decode cX1_mean 10 = .ok (.iconst 0, 1) := by decide +kernel
theorem dX1_mean_11 : decode cX1_mean 11 = .ok (.ireturn, 1) := by decide +kernel
set_option maxRecDepth 20000 in
theorem ggX1_eyeMean_X1_sumOver : GoodIn wsX1_eyeMean wsX1_sumOver := goodIn_r _ [6, 7, 8, 9, 5, 10, 1, 11, 12, 13, 14, 15, 16, 17, 18, 19, 20, 21, 22, 23, 24, 25, 26, 27, 28, 29, 30, 31, 32, 33, 34, 35, 36, 37, 38, 39, 40, 41, 45, 46, 47, 48, 49] (by decide +kernel) (by decide +kernel)
set_option maxRecDepth 20000 in
theorem gX1_eyeMean_X1_sumOver : GoodIn wsX1_eyeMean (wsV RX1 98 RX1 yX1_sumOver wsX1_sumOver) := goodIn_app (goodIn_of _ (by decide +kernel)) ggX1_eyeMean_X1_sumOver
set_option maxRecDepth 20000 in
theorem ggX1_eyeMean_X1_mean : GoodIn wsX1_eyeMean wsX1_mean := goodIn_r _ [44] (by decide +kernel) (by decide +kernel)
set_option maxRecDepth 20000 in
theorem gX1_eyeMean_X1_mean : GoodIn wsX1_eyeMean (va_wsS RX1 101 yX1_mean wsX1_mean) := goodIn_app (goodIn_of _ (by decide +kernel)) ggX1_eyeMean_X1_mean
theorem dX1_eyeMean_0 : decode cX1_eyeMean 0 = .ok (.aload_n 0, 1) := by decide +kernel
theorem dX1_eyeMean_1 : decode cX1_eyeMean 1 = .ok (.iload_n 1, 1) := by decide +kernel
theorem dX1_eyeMean_2 : decode cX1_eyeMean 2 = .ok (.iconst 0, 1) := by decide +kernel
theorem dX1_eyeMean_3 : decode cX1_eyeMean 3 = .ok (.aload_n 0, 1) := by decide +kernel
theorem dX1_eyeMean_4 : decode cX1_eyeMean 4 = .ok (.getfield 22, 3) := by decide +kernel
theorem dX1_eyeMean_7 : decode cX1_eyeMean 7 = .ok (.iconst 0, 1) := by decide +kernel
theorem dX1_eyeMean_8 : decode cX1_eyeMean 8 = .ok (.iaload, 1) := by decide +kernel
theorem dX1_eyeMean_9 : decode cX1_eyeMean 9 = .ok (.invokevirtual 98, 3) := by decide +kernel
theorem dX1_eyeMean_12 : decode cX1_eyeMean 12 = .ok (.aload_n 0, 1) := by decide +kernel
theorem dX1_eyeMean_13 : decode cX1_eyeMean 13 = .ok (.getfield 22, 3) := by decide +kernel
theorem dX1_eyeMean_16 : decode cX1_eyeMean 16 = .ok (.iconst 0, 1) := by decide +kernel
theorem dX1_eyeMean_17 : decode cX1_eyeMean 17 = .ok (.iaload, 1) := by decide +kernel
theorem dX1_eyeMean_18 : decode cX1_eyeMean 18 = .ok (.invokestatic 101, 3) := by decide +kernel
theorem dX1_eyeMean_21 : decode cX1_eyeMean 21 = .ok (.ireturn, 1) := by decide +kernel
set_option maxRecDepth 20000 in
theorem ggX1_shutterMean_X1_startInFrame : GoodIn wsX1_shutterMean wsX1_startInFrame := goodIn_r _ [5, 6, 49, 50, 51, 52, 53] (by decide +kernel) (by decide +kernel)
set_option maxRecDepth 20000 in
theorem gX1_shutterMean_X1_startInFrame : GoodIn wsX1_shutterMean (wsV RX1 104 RX1 yX1_startInFrame wsX1_startInFrame) := goodIn_app (goodIn_of _ (by decide +kernel)) ggX1_shutterMean_X1_startInFrame
set_option maxRecDepth 20000 in
theorem ggX1_shutterMean_X1_sumOver : GoodIn wsX1_shutterMean wsX1_sumOver := goodIn_r _ [10, 11, 12, 13, 4, 14, 6, 15, 16, 17, 18, 19, 20, 21, 22, 23, 24, 25, 26, 27, 28, 29, 30, 31, 32, 33, 34, 35, 36, 37, 38, 39, 40, 41, 42, 43, 44, 45, 49, 50, 51, 52, 53] (by decide +kernel) (by decide +kernel)
set_option maxRecDepth 20000 in
theorem gX1_shutterMean_X1_sumOver : GoodIn wsX1_shutterMean (wsV RX1 98 RX1 yX1_sumOver wsX1_sumOver) := goodIn_app (goodIn_of _ (by decide +kernel)) ggX1_shutterMean_X1_sumOver
set_option maxRecDepth 20000 in
theorem ggX1_shutterMean_X1_mean : GoodIn wsX1_shutterMean wsX1_mean := goodIn_r _ [48] (by decide +kernel) (by decide +kernel)
set_option maxRecDepth 20000 in
theorem gX1_shutterMean_X1_mean : GoodIn wsX1_shutterMean (va_wsS RX1 101 yX1_mean wsX1_mean) := goodIn_app (goodIn_of _ (by decide +kernel)) ggX1_shutterMean_X1_mean
theorem dX1_shutterMean_0 : decode cX1_shutterMean 0 = .ok (.aload_n 0, 1) := by decide +kernel
theorem dX1_shutterMean_1 : decode cX1_shutterMean 1 = .ok (.iload_n 1, 1) := by decide +kernel
theorem dX1_shutterMean_2 : decode cX1_shutterMean 2 = .ok (.aload_n 0, 1) := by decide +kernel
theorem dX1_shutterMean_3 : decode cX1_shutterMean 3 = .ok (.invokevirtual 104, 3) := by decide +kernel
theorem dX1_shutterMean_6 : decode cX1_shutterMean 6 = .ok (.iload_n 2, 1) := by decide +kernel
theorem dX1_shutterMean_7 : decode cX1_shutterMean 7 = .ok (.invokevirtual 98, 3) := by decide +kernel
theorem dX1_shutterMean_10 : decode cX1_shutterMean 10 = .ok (.iload_n 2, 1) := by decide +kernel
theorem dX1_shutterMean_11 : decode cX1_shutterMean 11 = .ok (.invokestatic 101, 3) := by decide +kernel
theorem dX1_shutterMean_14 : decode cX1_shutterMean 14 = .ok (.ireturn, 1) := by decide +kernel
set_option maxRecDepth 20000 in
theorem ggX1_flicker_X1_litTick : GoodIn wsX1_flicker wsX1_litTick := goodIn_r _ [13, 1, 14, 15, 16, 12, 17, 18, 19, 20, 21, 22, 23, 24, 25, 26, 27, 28, 4, 29, 38, 39, 40, 41, 42] (by decide +kernel) (by decide +kernel)
set_option maxRecDepth 20000 in
theorem gX1_flicker_X1_litTick : GoodIn wsX1_flicker (wsV RX1 89 RX1 yX1_litTick wsX1_litTick) := goodIn_app (goodIn_of _ (by decide +kernel)) ggX1_flicker_X1_litTick
set_option maxRecDepth 20000 in
theorem ggX1_flicker_X1_shine : GoodIn wsX1_flicker wsX1_shine := goodIn_r _ [33, 34, 1, 35, 25, 36, 37, 3, 4, 5, 38, 39, 40, 41, 42] (by decide +kernel) (by decide +kernel)
set_option maxRecDepth 20000 in
theorem gX1_flicker_X1_shine : GoodIn wsX1_flicker (wsV RX1 92 RX1 yX1_shine wsX1_shine) := goodIn_app (goodIn_of _ (by decide +kernel)) ggX1_flicker_X1_shine
theorem dX1_flicker_0 : decode cX1_flicker 0 = .ok (.aload_n 0, 1) := by decide +kernel
theorem dX1_flicker_1 : decode cX1_flicker 1 = .ok (.iload_n 1, 1) := by decide +kernel
theorem dX1_flicker_2 : decode cX1_flicker 2 = .ok (.invokevirtual 89, 3) := by decide +kernel
theorem dX1_flicker_5 : decode cX1_flicker 5 = .ok (.istore_n 2, 1) := by decide +kernel
theorem dX1_flicker_6 : decode cX1_flicker 6 = .ok (.aload_n 0, 1) := by decide +kernel
theorem dX1_flicker_7 : decode cX1_flicker 7 = .ok (.iload_n 1, 1) := by decide +kernel
theorem dX1_flicker_8 : decode cX1_flicker 8 = .ok (.iload_n 2, 1) := by decide +kernel
theorem dX1_flicker_9 : decode cX1_flicker 9 = .ok (.iconst 0, 1) := by decide +kernel
theorem dX1_flicker_10 : decode cX1_flicker 10 = .ok (.invokevirtual 92, 3) := by decide +kernel
theorem dX1_flicker_13 : decode cX1_flicker 13 = .ok (.istore_n 3, 1) := by decide +kernel
theorem dX1_flicker_14 : decode cX1_flicker 14 = .ok (.iload_n 3, 1) := by decide +kernel
theorem dX1_flicker_15 : decode cX1_flicker 15 = .ok (.istore 4, 2) := by decide +kernel
theorem dX1_flicker_17 : decode cX1_flicker 17 = .ok (.iconst 1, 1) := by decide +kernel
theorem dX1_flicker_18 : decode cX1_flicker 18 = .ok (.istore 5, 2) := by decide +kernel
theorem dX1_flicker_20 : decode cX1_flicker 20 = .ok (.iload 5, 2) := by decide +kernel
theorem dX1_flicker_22 : decode cX1_flicker 22 = .ok (.aload_n 0, 1) := by decide +kernel
theorem dX1_flicker_23 : decode cX1_flicker 23 = .ok (.getfield 22, 3) := by decide +kernel
theorem dX1_flicker_26 : decode cX1_flicker 26 = .ok (.iconst 0, 1) := by decide +kernel
theorem dX1_flicker_27 : decode cX1_flicker 27 = .ok (.iaload, 1) := by decide +kernel
theorem dX1_flicker_28 : decode cX1_flicker 28 = .ok (.if_icmp .ge 35, 3) := by decide +kernel
theorem dX1_flicker_31 : decode cX1_flicker 31 = .ok (.aload_n 0, 1) := by decide +kernel
theorem dX1_flicker_32 : decode cX1_flicker 32 = .ok (.iload_n 1, 1) := by decide +kernel
theorem dX1_flicker_33 : decode cX1_flicker 33 = .ok (.iload_n 2, 1) := by decide +kernel
theorem dX1_flicker_34 : decode cX1_flicker 34 = .ok (.iload 5, 2) := by decide +kernel
theorem dX1_flicker_36 : decode cX1_flicker 36 = .ok (.invokevirtual 92, 3) := by decide +kernel
theorem dX1_flicker_39 : decode cX1_flicker 39 = .ok (.istore 6, 2) := by decide +kernel
theorem dX1_flicker_41 : decode cX1_flicker 41 = .ok (.iload_n 3, 1) := by decide +kernel
theorem dX1_flicker_42 : decode cX1_flicker 42 = .ok (.iload 6, 2) := by decide +kernel
theorem dX1_flicker_44 : decode cX1_flicker 44 = .ok (.invokestatic 107, 3) := by decide +kernel
theorem dX1_flicker_47 : decode cX1_flicker 47 = .ok (.istore_n 3, 1) := by decide +kernel
theorem dX1_flicker_48 : decode cX1_flicker 48 = .ok (.iload 4, 2) := by decide +kernel
theorem dX1_flicker_50 : decode cX1_flicker 50 = .ok (.iload 6, 2) := by decide +kernel
theorem dX1_flicker_52 : decode cX1_flicker 52 = .ok (.invokestatic 112, 3) := by decide +kernel
theorem dX1_flicker_55 : decode cX1_flicker 55 = .ok (.istore 4, 2) := by decide +kernel
theorem dX1_flicker_57 : decode cX1_flicker 57 = .ok (.iinc 5 1, 3) := by decide +kernel
theorem dX1_flicker_60 : decode cX1_flicker 60 = .ok (.goto (-40), 3) := by decide +kernel
theorem dX1_flicker_63 : decode cX1_flicker 63 = .ok (.iload_n 3, 1) := by decide +kernel
theorem dX1_flicker_64 : decode cX1_flicker 64 = .ok (.iload 4, 2) := by decide +kernel
theorem dX1_flicker_66 : decode cX1_flicker 66 = .ok (.isub, 1) := by decide +kernel
theorem dX1_flicker_67 : decode cX1_flicker 67 = .ok (.ireturn, 1) := by decide +kernel
set_option maxRecDepth 20000 in
theorem ggX1_seenByEye_X1_seen : GoodIn wsX1_seenByEye wsX1_seen := goodIn_r _ [6, 7, 8, 9, 10, 11, 5, 12, 13, 14, 15, 16, 1, 17, 18, 19, 20, 21, 22, 23, 24, 25, 26, 27, 28, 29, 30, 31, 32, 33, 34, 35, 36, 37, 38, 39, 40, 41, 42, 43, 44, 45, 46, 47, 48, 49, 50, 51, 52, 53] (by decide +kernel) (by decide +kernel)
set_option maxRecDepth 20000 in
theorem gX1_seenByEye_X1_seen : GoodIn wsX1_seenByEye (wsV RX1 115 RX1 yX1_seen wsX1_seen) := goodIn_app (goodIn_of _ (by decide +kernel)) ggX1_seenByEye_X1_seen
theorem dX1_seenByEye_0 : decode cX1_seenByEye 0 = .ok (.aload_n 0, 1) := by decide +kernel
theorem dX1_seenByEye_1 : decode cX1_seenByEye 1 = .ok (.iconst 0, 1) := by decide +kernel
theorem dX1_seenByEye_2 : decode cX1_seenByEye 2 = .ok (.aload_n 0, 1) := by decide +kernel
theorem dX1_seenByEye_3 : decode cX1_seenByEye 3 = .ok (.getfield 22, 3) := by decide +kernel
theorem dX1_seenByEye_6 : decode cX1_seenByEye 6 = .ok (.iconst 0, 1) := by decide +kernel
theorem dX1_seenByEye_7 : decode cX1_seenByEye 7 = .ok (.iaload, 1) := by decide +kernel
theorem dX1_seenByEye_8 : decode cX1_seenByEye 8 = .ok (.aload_n 0, 1) := by decide +kernel
theorem dX1_seenByEye_9 : decode cX1_seenByEye 9 = .ok (.getfield 22, 3) := by decide +kernel
theorem dX1_seenByEye_12 : decode cX1_seenByEye 12 = .ok (.iconst 2, 1) := by decide +kernel
theorem dX1_seenByEye_13 : decode cX1_seenByEye 13 = .ok (.iaload, 1) := by decide +kernel
theorem dX1_seenByEye_14 : decode cX1_seenByEye 14 = .ok (.invokevirtual 115, 3) := by decide +kernel
theorem dX1_seenByEye_17 : decode cX1_seenByEye 17 = .ok (.lreturn, 1) := by decide +kernel
set_option maxRecDepth 20000 in
theorem ggX1_seenByShutter_X1_startInFrame : GoodIn wsX1_seenByShutter wsX1_startInFrame := goodIn_r _ [6, 1, 53, 54, 55, 56, 57] (by decide +kernel) (by decide +kernel)
set_option maxRecDepth 20000 in
theorem gX1_seenByShutter_X1_startInFrame : GoodIn wsX1_seenByShutter (wsV RX1 104 RX1 yX1_startInFrame wsX1_startInFrame) := goodIn_app (goodIn_of _ (by decide +kernel)) ggX1_seenByShutter_X1_startInFrame
set_option maxRecDepth 20000 in
theorem ggX1_seenByShutter_X1_seen : GoodIn wsX1_seenByShutter wsX1_seen := goodIn_r _ [10, 11, 12, 13, 14, 15, 5, 16, 17, 18, 19, 20, 1, 21, 22, 23, 24, 25, 26, 27, 28, 29, 30, 31, 32, 33, 34, 35, 36, 37, 38, 39, 40, 41, 42, 43, 44, 45, 46, 47, 48, 49, 50, 51, 52, 53, 54, 55, 56, 57] (by decide +kernel) (by decide +kernel)
set_option maxRecDepth 20000 in
theorem gX1_seenByShutter_X1_seen : GoodIn wsX1_seenByShutter (wsV RX1 115 RX1 yX1_seen wsX1_seen) := goodIn_app (goodIn_of _ (by decide +kernel)) ggX1_seenByShutter_X1_seen
theorem dX1_seenByShutter_0 : decode cX1_seenByShutter 0 = .ok (.aload_n 0, 1) := by decide +kernel
theorem dX1_seenByShutter_1 : decode cX1_seenByShutter 1 = .ok (.aload_n 0, 1) := by decide +kernel
theorem dX1_seenByShutter_2 : decode cX1_seenByShutter 2 = .ok (.invokevirtual 104, 3) := by decide +kernel
theorem dX1_seenByShutter_5 : decode cX1_seenByShutter 5 = .ok (.iload_n 1, 1) := by decide +kernel
theorem dX1_seenByShutter_6 : decode cX1_seenByShutter 6 = .ok (.aload_n 0, 1) := by decide +kernel
theorem dX1_seenByShutter_7 : decode cX1_seenByShutter 7 = .ok (.getfield 22, 3) := by decide +kernel
theorem dX1_seenByShutter_10 : decode cX1_seenByShutter 10 = .ok (.iconst 5, 1) := by decide +kernel
theorem dX1_seenByShutter_11 : decode cX1_seenByShutter 11 = .ok (.iaload, 1) := by decide +kernel
theorem dX1_seenByShutter_12 : decode cX1_seenByShutter 12 = .ok (.invokevirtual 115, 3) := by decide +kernel
theorem dX1_seenByShutter_15 : decode cX1_seenByShutter 15 = .ok (.lreturn, 1) := by decide +kernel
set_option maxRecDepth 20000 in
theorem ggX1_seen_X1_sumOver : GoodIn wsX1_seen wsX1_sumOver := goodIn_r _ [7, 8, 9, 10, 6, 11, 12, 13, 14, 15, 16, 1, 2, 17, 18, 19, 20, 21, 22, 23, 24, 25, 26, 27, 28, 29, 30, 31, 32, 33, 34, 35, 36, 37, 38, 39, 40, 41, 45, 46, 47, 48, 49] (by decide +kernel) (by decide +kernel)
set_option maxRecDepth 20000 in
theorem gX1_seen_X1_sumOver : GoodIn wsX1_seen (wsV RX1 98 RX1 yX1_sumOver wsX1_sumOver) := goodIn_app (goodIn_of _ (by decide +kernel)) ggX1_seen_X1_sumOver
set_option maxRecDepth 20000 in
theorem ggX1_seen_X1_mean : GoodIn wsX1_seen wsX1_mean := goodIn_r _ [44] (by decide +kernel) (by decide +kernel)
set_option maxRecDepth 20000 in
theorem gX1_seen_X1_mean : GoodIn wsX1_seen (va_wsS RX1 101 yX1_mean wsX1_mean) := goodIn_app (goodIn_of _ (by decide +kernel)) ggX1_seen_X1_mean
theorem dX1_seen_0 : decode cX1_seen 0 = .ok (.lconst 0, 1) := by decide +kernel
theorem dX1_seen_1 : decode cX1_seen 1 = .ok (.lstore 4, 2) := by decide +kernel
theorem dX1_seen_3 : decode cX1_seen 3 = .ok (.iconst 0, 1) := by decide +kernel
theorem dX1_seen_4 : decode cX1_seen 4 = .ok (.istore 6, 2) := by decide +kernel
theorem dX1_seen_6 : decode cX1_seen 6 = .ok (.iload 6, 2) := by decide +kernel
theorem dX1_seen_8 : decode cX1_seen 8 = .ok (.aload_n 0, 1) := by decide +kernel
theorem dX1_seen_9 : decode cX1_seen 9 = .ok (.getfield 31, 3) := by decide +kernel
theorem dX1_seen_12 : decode cX1_seen 12 = .ok (.if_icmp .ge 44, 3) := by decide +kernel
theorem dX1_seen_15 : decode cX1_seen 15 = .ok (.aload_n 0, 1) := by decide +kernel
theorem dX1_seen_16 : decode cX1_seen 16 = .ok (.aload_n 0, 1) := by decide +kernel
theorem dX1_seen_17 : decode cX1_seen 17 = .ok (.getfield 15, 3) := by decide +kernel
theorem dX1_seen_20 : decode cX1_seen 20 = .ok (.iload 6, 2) := by decide +kernel
theorem dX1_seen_22 : decode cX1_seen 22 = .ok (.iaload, 1) := by decide +kernel
theorem dX1_seen_23 : decode cX1_seen 23 = .ok (.iload_n 1, 1) := by decide +kernel
theorem dX1_seen_24 : decode cX1_seen 24 = .ok (.iload_n 2, 1) := by decide +kernel
theorem dX1_seen_25 : decode cX1_seen 25 = .ok (.invokevirtual 98, 3) := by decide +kernel
theorem dX1_seen_28 : decode cX1_seen 28 = .ok (.iload_n 2, 1) := by decide +kernel
theorem dX1_seen_29 : decode cX1_seen 29 = .ok (.invokestatic 101, 3) := by decide +kernel
theorem dX1_seen_32 : decode cX1_seen 32 = .ok (.iload_n 3, 1) := by decide +kernel
theorem dX1_seen_33 : decode cX1_seen 33 = .ok (.if_icmp .lt 17, 3) := by decide +kernel
theorem dX1_seen_36 : decode cX1_seen 36 = .ok (.lload 4, 2) := by decide +kernel
theorem dX1_seen_38 : decode cX1_seen 38 = .ok (.lconst 1, 1) := by decide +kernel
theorem dX1_seen_39 : decode cX1_seen 39 = .ok (.aload_n 0, 1) := by decide +kernel
theorem dX1_seen_40 : decode cX1_seen 40 = .ok (.getfield 15, 3) := by decide +kernel
theorem dX1_seen_43 : decode cX1_seen 43 = .ok (.iload 6, 2) := by decide +kernel
theorem dX1_seen_45 : decode cX1_seen 45 = .ok (.iaload, 1) := by decide +kernel
theorem dX1_seen_46 : decode cX1_seen 46 = .ok (.lshl, 1) := by decide +kernel
theorem dX1_seen_47 : decode cX1_seen 47 = .ok (.lor, 1) := by decide +kernel
theorem dX1_seen_48 : decode cX1_seen 48 = .ok (.lstore 4, 2) := by decide +kernel
theorem dX1_seen_50 : decode cX1_seen 50 = .ok (.iinc 6 1, 3) := by decide +kernel
theorem dX1_seen_53 : decode cX1_seen 53 = .ok (.goto (-47), 3) := by decide +kernel
theorem dX1_seen_56 : decode cX1_seen 56 = .ok (.lload 4, 2) := by decide +kernel
end
section
theorem dX1_seen_58 : decode cX1_seen 58 = .ok (.lreturn, 1) := by decide +kernel
theorem dX1_wrong_0 : decode cX1_wrong 0 = .ok (.aload_n 0, 1) := by decide +kernel
theorem dX1_wrong_1 : decode cX1_wrong 1 = .ok (.getfield 18, 3) := by decide +kernel
theorem dX1_wrong_4 : decode cX1_wrong 4 = .ok (.iload_n 1, 1) := by decide +kernel
theorem dX1_wrong_5 : decode cX1_wrong 5 = .ok (.laload, 1) := by decide +kernel
theorem dX1_wrong_6 : decode cX1_wrong 6 = .ok (.lload_n 2, 1) := by decide +kernel
theorem dX1_wrong_7 : decode cX1_wrong 7 = .ok (.lxor, 1) := by decide +kernel
theorem dX1_wrong_8 : decode cX1_wrong 8 = .ok (.lreturn, 1) := by decide +kernel
set_option maxRecDepth 20000 in
theorem ggX1_countWrong_J13_bitCount_95d88 : GoodIn wsX1_countWrong wsJ13_bitCount_95d88 := goodIn_r _ [7, 8, 9, 10] (by decide +kernel) (by decide +kernel)
set_option maxRecDepth 20000 in
theorem gX1_countWrong_J13_bitCount_95d88 : GoodIn wsX1_countWrong (va_wsS RX1 77 yJ13_bitCount_95d88 wsJ13_bitCount_95d88) := goodIn_app (goodIn_of _ (by decide +kernel)) ggX1_countWrong_J13_bitCount_95d88
set_option maxRecDepth 20000 in
theorem ggX1_countWrong_J7_fill_53178 : GoodIn wsX1_countWrong wsJ7_fill_53178 := goodIn_r _ [14] (by decide +kernel) (by decide +kernel)
set_option maxRecDepth 20000 in
theorem gX1_countWrong_J7_fill_53178 : GoodIn wsX1_countWrong (va_wsS RX1 119 yJ7_fill_53178 wsJ7_fill_53178) := goodIn_app (goodIn_of _ (by decide +kernel)) ggX1_countWrong_J7_fill_53178
set_option maxRecDepth 20000 in
theorem ggX1_countWrong_X1_countSeen : GoodIn wsX1_countWrong wsX1_countSeen := goodIn_r _ [19, 1, 20, 21, 22, 23, 24, 25, 26, 18, 27, 28, 29, 30, 31, 2, 3, 32, 33, 34, 35, 36, 37, 38, 39, 40, 41, 42, 43, 44, 45, 46, 47, 48, 49, 50, 51, 52, 53, 54, 55, 56, 57, 58, 59, 60, 61, 62, 63, 64, 65, 66, 67] (by decide +kernel) (by decide +kernel)
set_option maxRecDepth 20000 in
theorem gX1_countWrong_X1_countSeen : GoodIn wsX1_countWrong (wsV RX1 125 RX1 yX1_countSeen wsX1_countSeen) := goodIn_app (goodIn_of _ (by decide +kernel)) ggX1_countWrong_X1_countSeen
theorem dX1_countWrong_0 : decode cX1_countWrong 0 = .ok (.aload_n 1, 1) := by decide +kernel
theorem dX1_countWrong_1 : decode cX1_countWrong 1 = .ok (.aload_n 0, 1) := by decide +kernel
theorem dX1_countWrong_2 : decode cX1_countWrong 2 = .ok (.getfield 18, 3) := by decide +kernel
theorem dX1_countWrong_5 : decode cX1_countWrong 5 = .ok (.iconst 1, 1) := by decide +kernel
theorem dX1_countWrong_6 : decode cX1_countWrong 6 = .ok (.laload, 1) := by decide +kernel
theorem dX1_countWrong_7 : decode cX1_countWrong 7 = .ok (.invokestatic 77, 3) := by decide +kernel
theorem dX1_countWrong_10 : decode cX1_countWrong 10 = .ok (.invokestatic 119, 3) := by decide +kernel
theorem dX1_countWrong_13 : decode cX1_countWrong 13 = .ok (.iconst 0, 1) := by decide +kernel
theorem dX1_countWrong_14 : decode cX1_countWrong 14 = .ok (.istore_n 2, 1) := by decide +kernel
theorem dX1_countWrong_15 : decode cX1_countWrong 15 = .ok (.iload_n 2, 1) := by decide +kernel
theorem dX1_countWrong_16 : decode cX1_countWrong 16 = .ok (.aload_n 0, 1) := by decide +kernel
theorem dX1_countWrong_17 : decode cX1_countWrong 17 = .ok (.getfield 31, 3) := by decide +kernel
theorem dX1_countWrong_20 : decode cX1_countWrong 20 = .ok (.if_icmp .ge 20, 3) := by decide +kernel
theorem dX1_countWrong_23 : decode cX1_countWrong 23 = .ok (.aload_n 0, 1) := by decide +kernel
theorem dX1_countWrong_24 : decode cX1_countWrong 24 = .ok (.aload_n 0, 1) := by decide +kernel
theorem dX1_countWrong_25 : decode cX1_countWrong 25 = .ok (.getfield 15, 3) := by decide +kernel
theorem dX1_countWrong_28 : decode cX1_countWrong 28 = .ok (.iload_n 2, 1) := by decide +kernel
theorem dX1_countWrong_29 : decode cX1_countWrong 29 = .ok (.iaload, 1) := by decide +kernel
theorem dX1_countWrong_30 : decode cX1_countWrong 30 = .ok (.aload_n 1, 1) := by decide +kernel
theorem dX1_countWrong_31 : decode cX1_countWrong 31 = .ok (.invokevirtual 125, 3) := by decide +kernel
theorem dX1_countWrong_34 : decode cX1_countWrong 34 = .ok (.iinc 2 1, 3) := by decide +kernel
theorem dX1_countWrong_37 : decode cX1_countWrong 37 = .ok (.goto (-22), 3) := by decide +kernel
theorem dX1_countWrong_40 : decode cX1_countWrong 40 = .ok (.return_, 1) := by decide +kernel
set_option maxRecDepth 20000 in
theorem ggX1_countSeen_X4_bit : GoodIn wsX1_countSeen wsX4_bit := goodIn_r _ [5] (by decide +kernel) (by decide +kernel)
set_option maxRecDepth 20000 in
theorem gX1_countSeen_X4_bit_n64 : GoodIn wsX1_countSeen (wsX4_bit) := ggX1_countSeen_X4_bit
set_option maxRecDepth 20000 in
theorem ggX1_countSeen_X1_litTick : GoodIn wsX1_countSeen wsX1_litTick := goodIn_r _ [10, 2, 11, 12, 13, 9, 14, 15, 16, 17, 18, 19, 20, 21, 4, 22, 23, 24, 25, 26, 48, 49, 50, 51, 52] (by decide +kernel) (by decide +kernel)
set_option maxRecDepth 20000 in
theorem gX1_countSeen_X1_litTick : GoodIn wsX1_countSeen (wsV RX1 89 RX1 yX1_litTick wsX1_litTick) := goodIn_app (goodIn_of _ (by decide +kernel)) ggX1_countSeen_X1_litTick
set_option maxRecDepth 20000 in
theorem ggX1_countSeen_X1_sumOver : GoodIn wsX1_countSeen wsX1_sumOver := goodIn_r _ [30, 6, 7, 8, 9, 10, 2, 11, 12, 13, 14, 15, 16, 17, 18, 19, 20, 21, 4, 22, 23, 24, 25, 26, 31, 32, 33, 34, 35, 36, 37, 38, 39, 40, 41, 42, 43, 44, 48, 49, 50, 51, 52] (by decide +kernel) (by decide +kernel)
set_option maxRecDepth 20000 in
theorem gX1_countSeen_X1_sumOver : GoodIn wsX1_countSeen (wsV RX1 98 RX1 yX1_sumOver wsX1_sumOver) := goodIn_app (goodIn_of _ (by decide +kernel)) ggX1_countSeen_X1_sumOver
set_option maxRecDepth 20000 in
theorem ggX1_countSeen_X1_next : GoodIn wsX1_countSeen wsX1_next := goodIn_r _ [44, 2, 48, 49, 50, 51, 52] (by decide +kernel) (by decide +kernel)
set_option maxRecDepth 20000 in
theorem gX1_countSeen_X1_next : GoodIn wsX1_countSeen (wsV RX1 95 RX1 yX1_next wsX1_next) := goodIn_app (goodIn_of _ (by decide +kernel)) ggX1_countSeen_X1_next
set_option maxRecDepth 20000 in
theorem ggX1_countSeen_X1_mean : GoodIn wsX1_countSeen wsX1_mean := goodIn_r _ [47] (by decide +kernel) (by decide +kernel)
set_option maxRecDepth 20000 in
theorem gX1_countSeen_X1_mean : GoodIn wsX1_countSeen (va_wsS RX1 101 yX1_mean wsX1_mean) := goodIn_app (goodIn_of _ (by decide +kernel)) ggX1_countSeen_X1_mean
set_option maxRecDepth 20000 in
theorem ggX1_countSeen_X1_shine : GoodIn wsX1_countSeen wsX1_shine := goodIn_r _ [34, 35, 2, 36, 4, 37, 38, 39, 25, 40, 48, 49, 50, 51, 52] (by decide +kernel) (by decide +kernel)
set_option maxRecDepth 20000 in
theorem gX1_countSeen_X1_shine : GoodIn wsX1_countSeen (wsV RX1 92 RX1 yX1_shine wsX1_shine) := goodIn_app (goodIn_of _ (by decide +kernel)) ggX1_countSeen_X1_shine
theorem dX1_countSeen_0 : decode cX1_countSeen 0 = .ok (.aload_n 0, 1) := by decide +kernel
theorem dX1_countSeen_1 : decode cX1_countSeen 1 = .ok (.getfield 18, 3) := by decide +kernel
theorem dX1_countSeen_4 : decode cX1_countSeen 4 = .ok (.iconst 1, 1) := by decide +kernel
theorem dX1_countSeen_5 : decode cX1_countSeen 5 = .ok (.laload, 1) := by decide +kernel
theorem dX1_countSeen_6 : decode cX1_countSeen 6 = .ok (.iload_n 1, 1) := by decide +kernel
theorem dX1_countSeen_7 : decode cX1_countSeen 7 = .ok (.invokestatic 64, 3) := by decide +kernel
theorem dX1_countSeen_10 : decode cX1_countSeen 10 = .ok (.iconst 1, 1) := by decide +kernel
theorem dX1_countSeen_11 : decode cX1_countSeen 11 = .ok (.if_icmp .ne 7, 3) := by decide +kernel
theorem dX1_countSeen_14 : decode cX1_countSeen 14 = .ok (.iconst (-1), 1) := by decide +kernel
theorem dX1_countSeen_15 : decode cX1_countSeen 15 = .ok (.goto 4, 3) := by decide +kernel
theorem dX1_countSeen_18 : decode cX1_countSeen 18 = .ok (.iconst 1, 1) := by decide +kernel
theorem dX1_countSeen_19 : decode cX1_countSeen 19 = .ok (.istore_n 3, 1) := by decide +kernel
theorem dX1_countSeen_20 : decode cX1_countSeen 20 = .ok (.aload_n 0, 1) := by decide +kernel
theorem dX1_countSeen_21 : decode cX1_countSeen 21 = .ok (.getfield 22, 3) := by decide +kernel
theorem dX1_countSeen_24 : decode cX1_countSeen 24 = .ok (.iconst 4, 1) := by decide +kernel
theorem dX1_countSeen_25 : decode cX1_countSeen 25 = .ok (.iaload, 1) := by decide +kernel
theorem dX1_countSeen_26 : decode cX1_countSeen 26 = .ok (.istore 4, 2) := by decide +kernel
theorem dX1_countSeen_28 : decode cX1_countSeen 28 = .ok (.aload_n 0, 1) := by decide +kernel
theorem dX1_countSeen_29 : decode cX1_countSeen 29 = .ok (.iload_n 1, 1) := by decide +kernel
theorem dX1_countSeen_30 : decode cX1_countSeen 30 = .ok (.invokevirtual 89, 3) := by decide +kernel
theorem dX1_countSeen_33 : decode cX1_countSeen 33 = .ok (.istore 5, 2) := by decide +kernel
theorem dX1_countSeen_35 : decode cX1_countSeen 35 = .ok (.aload_n 0, 1) := by decide +kernel
theorem dX1_countSeen_36 : decode cX1_countSeen 36 = .ok (.iload_n 1, 1) := by decide +kernel
theorem dX1_countSeen_37 : decode cX1_countSeen 37 = .ok (.iconst 0, 1) := by decide +kernel
theorem dX1_countSeen_38 : decode cX1_countSeen 38 = .ok (.iload 4, 2) := by decide +kernel
theorem dX1_countSeen_40 : decode cX1_countSeen 40 = .ok (.invokevirtual 98, 3) := by decide +kernel
theorem dX1_countSeen_43 : decode cX1_countSeen 43 = .ok (.istore 6, 2) := by decide +kernel
theorem dX1_countSeen_45 : decode cX1_countSeen 45 = .ok (.iconst 0, 1) := by decide +kernel
theorem dX1_countSeen_46 : decode cX1_countSeen 46 = .ok (.istore 7, 2) := by decide +kernel
theorem dX1_countSeen_48 : decode cX1_countSeen 48 = .ok (.iconst 0, 1) := by decide +kernel
theorem dX1_countSeen_49 : decode cX1_countSeen 49 = .ok (.istore 8, 2) := by decide +kernel
theorem dX1_countSeen_51 : decode cX1_countSeen 51 = .ok (.iload 8, 2) := by decide +kernel
theorem dX1_countSeen_53 : decode cX1_countSeen 53 = .ok (.iload 4, 2) := by decide +kernel
theorem dX1_countSeen_55 : decode cX1_countSeen 55 = .ok (.if_icmp .ge 17, 3) := by decide +kernel
theorem dX1_countSeen_58 : decode cX1_countSeen 58 = .ok (.aload_n 0, 1) := by decide +kernel
theorem dX1_countSeen_59 : decode cX1_countSeen 59 = .ok (.iload 7, 2) := by decide +kernel
theorem dX1_countSeen_61 : decode cX1_countSeen 61 = .ok (.invokevirtual 95, 3) := by decide +kernel
theorem dX1_countSeen_64 : decode cX1_countSeen 64 = .ok (.istore 7, 2) := by decide +kernel
theorem dX1_countSeen_66 : decode cX1_countSeen 66 = .ok (.iinc 8 1, 3) := by decide +kernel
theorem dX1_countSeen_69 : decode cX1_countSeen 69 = .ok (.goto (-18), 3) := by decide +kernel
theorem dX1_countSeen_72 : decode cX1_countSeen 72 = .ok (.iconst 0, 1) := by decide +kernel
theorem dX1_countSeen_73 : decode cX1_countSeen 73 = .ok (.istore 8, 2) := by decide +kernel
theorem dX1_countSeen_75 : decode cX1_countSeen 75 = .ok (.iload 8, 2) := by decide +kernel
theorem dX1_countSeen_77 : decode cX1_countSeen 77 = .ok (.aload_n 0, 1) := by decide +kernel
theorem dX1_countSeen_78 : decode cX1_countSeen 78 = .ok (.getfield 22, 3) := by decide +kernel
theorem dX1_countSeen_81 : decode cX1_countSeen 81 = .ok (.iconst 0, 1) := by decide +kernel
theorem dX1_countSeen_82 : decode cX1_countSeen 82 = .ok (.iaload, 1) := by decide +kernel
theorem dX1_countSeen_83 : decode cX1_countSeen 83 = .ok (.if_icmp .ge 72, 3) := by decide +kernel
theorem dX1_countSeen_86 : decode cX1_countSeen 86 = .ok (.iload 8, 2) := by decide +kernel
theorem dX1_countSeen_88 : decode cX1_countSeen 88 = .ok (.aload_n 2, 1) := by decide +kernel
theorem dX1_countSeen_89 : decode cX1_countSeen 89 = .ok (.arraylength, 1) := by decide +kernel
theorem dX1_countSeen_90 : decode cX1_countSeen 90 = .ok (.if_icmp .ge 65, 3) := by decide +kernel
theorem dX1_countSeen_93 : decode cX1_countSeen 93 = .ok (.iload 6, 2) := by decide +kernel
theorem dX1_countSeen_95 : decode cX1_countSeen 95 = .ok (.iload 4, 2) := by decide +kernel
theorem dX1_countSeen_97 : decode cX1_countSeen 97 = .ok (.invokestatic 101, 3) := by decide +kernel
theorem dX1_countSeen_100 : decode cX1_countSeen 100 = .ok (.aload_n 0, 1) := by decide +kernel
theorem dX1_countSeen_101 : decode cX1_countSeen 101 = .ok (.getfield 22, 3) := by decide +kernel
theorem dX1_countSeen_104 : decode cX1_countSeen 104 = .ok (.iconst 5, 1) := by decide +kernel
theorem dX1_countSeen_105 : decode cX1_countSeen 105 = .ok (.iaload, 1) := by decide +kernel
theorem dX1_countSeen_106 : decode cX1_countSeen 106 = .ok (.if_icmp .lt 11, 3) := by decide +kernel
theorem dX1_countSeen_109 : decode cX1_countSeen 109 = .ok (.aload_n 2, 1) := by decide +kernel
theorem dX1_countSeen_110 : decode cX1_countSeen 110 = .ok (.iload 8, 2) := by decide +kernel
theorem dX1_countSeen_112 : decode cX1_countSeen 112 = .ok (.dup2, 1) := by decide +kernel
theorem dX1_countSeen_113 : decode cX1_countSeen 113 = .ok (.iaload, 1) := by decide +kernel
theorem dX1_countSeen_114 : decode cX1_countSeen 114 = .ok (.iload_n 3, 1) := by decide +kernel
theorem dX1_countSeen_115 : decode cX1_countSeen 115 = .ok (.iadd, 1) := by decide +kernel
theorem dX1_countSeen_116 : decode cX1_countSeen 116 = .ok (.iastore, 1) := by decide +kernel
theorem dX1_countSeen_117 : decode cX1_countSeen 117 = .ok (.iload 6, 2) := by decide +kernel
theorem dX1_countSeen_119 : decode cX1_countSeen 119 = .ok (.aload_n 0, 1) := by decide +kernel
theorem dX1_countSeen_120 : decode cX1_countSeen 120 = .ok (.iload_n 1, 1) := by decide +kernel
theorem dX1_countSeen_121 : decode cX1_countSeen 121 = .ok (.iload 5, 2) := by decide +kernel
theorem dX1_countSeen_123 : decode cX1_countSeen 123 = .ok (.iload 7, 2) := by decide +kernel
theorem dX1_countSeen_125 : decode cX1_countSeen 125 = .ok (.invokevirtual 92, 3) := by decide +kernel
theorem dX1_countSeen_128 : decode cX1_countSeen 128 = .ok (.aload_n 0, 1) := by decide +kernel
theorem dX1_countSeen_129 : decode cX1_countSeen 129 = .ok (.iload_n 1, 1) := by decide +kernel
theorem dX1_countSeen_130 : decode cX1_countSeen 130 = .ok (.iload 5, 2) := by decide +kernel
theorem dX1_countSeen_132 : decode cX1_countSeen 132 = .ok (.iload 8, 2) := by decide +kernel
theorem dX1_countSeen_134 : decode cX1_countSeen 134 = .ok (.invokevirtual 92, 3) := by decide +kernel
theorem dX1_countSeen_137 : decode cX1_countSeen 137 = .ok (.isub, 1) := by decide +kernel
theorem dX1_countSeen_138 : decode cX1_countSeen 138 = .ok (.iadd, 1) := by decide +kernel
theorem dX1_countSeen_139 : decode cX1_countSeen 139 = .ok (.istore 6, 2) := by decide +kernel
theorem dX1_countSeen_141 : decode cX1_countSeen 141 = .ok (.aload_n 0, 1) := by decide +kernel
theorem dX1_countSeen_142 : decode cX1_countSeen 142 = .ok (.iload 7, 2) := by decide +kernel
theorem dX1_countSeen_144 : decode cX1_countSeen 144 = .ok (.invokevirtual 95, 3) := by decide +kernel
theorem dX1_countSeen_147 : decode cX1_countSeen 147 = .ok (.istore 7, 2) := by decide +kernel
theorem dX1_countSeen_149 : decode cX1_countSeen 149 = .ok (.iinc 8 1, 3) := by decide +kernel
theorem dX1_countSeen_152 : decode cX1_countSeen 152 = .ok (.goto (-77), 3) := by decide +kernel
theorem dX1_countSeen_155 : decode cX1_countSeen 155 = .ok (.return_, 1) := by decide +kernel
set_option maxRecDepth 20000 in
theorem ggX2_init_X1_init : GoodIn wsX2_init wsX1_init := goodIn_r _ [12, 13, 2, 3, 14, 15, 16, 17, 18, 19, 20, 21, 22, 23, 24] (by decide +kernel) (by decide +kernel)
set_option maxRecDepth 20000 in
theorem gX2_init_X1_init_n11 : GoodIn wsX2_init (wsX1_init) := ggX2_init_X1_init
theorem dX2_init_0 : decode cX2_init 0 = .ok (.aload_n 0, 1) := by decide +kernel
theorem dX2_init_1 : decode cX2_init 1 = .ok (.invokespecial 3, 3) := by decide +kernel
theorem dX2_init_4 : decode cX2_init 4 = .ok (.aload_n 0, 1) := by decide +kernel
theorem dX2_init_5 : decode cX2_init 5 = .ok (.new 9, 3) := by decide +kernel
theorem dX2_init_8 : decode cX2_init 8 = .ok (.dup, 1) := by decide +kernel
theorem dX2_init_9 : decode cX2_init 9 = .ok (.invokespecial 11, 3) := by decide +kernel
theorem dX2_init_12 : decode cX2_init 12 = .ok (.putfield 12, 3) := by decide +kernel
theorem dX2_init_15 : decode cX2_init 15 = .ok (.aload_n 0, 1) := by decide +kernel
theorem dX2_init_16 : decode cX2_init 16 = .ok (.iconst 2, 1) := by decide +kernel
theorem dX2_init_17 : decode cX2_init 17 = .ok (.anewarray 9, 3) := by decide +kernel
theorem dX2_init_20 : decode cX2_init 20 = .ok (.putfield 18, 3) := by decide +kernel
theorem dX2_init_23 : decode cX2_init 23 = .ok (.iconst 0, 1) := by decide +kernel
theorem dX2_init_24 : decode cX2_init 24 = .ok (.istore_n 1, 1) := by decide +kernel
theorem dX2_init_25 : decode cX2_init 25 = .ok (.iload_n 1, 1) := by decide +kernel
theorem dX2_init_26 : decode cX2_init 26 = .ok (.iconst 2, 1) := by decide +kernel
theorem dX2_init_27 : decode cX2_init 27 = .ok (.if_icmp .ge 22, 3) := by decide +kernel
theorem dX2_init_30 : decode cX2_init 30 = .ok (.aload_n 0, 1) := by decide +kernel
theorem dX2_init_31 : decode cX2_init 31 = .ok (.getfield 18, 3) := by decide +kernel
theorem dX2_init_34 : decode cX2_init 34 = .ok (.iload_n 1, 1) := by decide +kernel
theorem dX2_init_35 : decode cX2_init 35 = .ok (.new 9, 3) := by decide +kernel
theorem dX2_init_38 : decode cX2_init 38 = .ok (.dup, 1) := by decide +kernel
theorem dX2_init_39 : decode cX2_init 39 = .ok (.invokespecial 11, 3) := by decide +kernel
theorem dX2_init_42 : decode cX2_init 42 = .ok (.aastore, 1) := by decide +kernel
theorem dX2_init_43 : decode cX2_init 43 = .ok (.iinc 1 1, 3) := by decide +kernel
theorem dX2_init_46 : decode cX2_init 46 = .ok (.goto (-21), 3) := by decide +kernel
theorem dX2_init_49 : decode cX2_init 49 = .ok (.aload_n 0, 1) := by decide +kernel
theorem dX2_init_50 : decode cX2_init 50 = .ok (.iconst 2, 1) := by decide +kernel
theorem dX2_init_51 : decode cX2_init 51 = .ok (.newarray .boolean, 2) := by decide +kernel
theorem dX2_init_53 : decode cX2_init 53 = .ok (.putfield 22, 3) := by decide +kernel
theorem dX2_init_56 : decode cX2_init 56 = .ok (.return_, 1) := by decide +kernel
set_option maxRecDepth 20000 in
theorem ggX2_copyFrom_X1_copyFrom : GoodIn wsX2_copyFrom wsX1_copyFrom := goodIn_r _ [8, 9, 10, 11, 12, 13, 14, 15, 16, 17, 21, 22, 23, 24, 25] (by decide +kernel) (by decide +kernel)
set_option maxRecDepth 20000 in
theorem gX2_copyFrom_X1_copyFrom : GoodIn wsX2_copyFrom (wsV RX2 26 RX1 yX1_copyFrom wsX1_copyFrom) := goodIn_app (goodIn_of _ (by decide +kernel)) ggX2_copyFrom_X1_copyFrom
theorem dX2_copyFrom_0 : decode cX2_copyFrom 0 = .ok (.aload_n 0, 1) := by decide +kernel
theorem dX2_copyFrom_1 : decode cX2_copyFrom 1 = .ok (.getfield 12, 3) := by decide +kernel
theorem dX2_copyFrom_4 : decode cX2_copyFrom 4 = .ok (.aload_n 1, 1) := by decide +kernel
theorem dX2_copyFrom_5 : decode cX2_copyFrom 5 = .ok (.getfield 12, 3) := by decide +kernel
theorem dX2_copyFrom_8 : decode cX2_copyFrom 8 = .ok (.invokevirtual 26, 3) := by decide +kernel
theorem dX2_copyFrom_11 : decode cX2_copyFrom 11 = .ok (.iconst 0, 1) := by decide +kernel
theorem dX2_copyFrom_12 : decode cX2_copyFrom 12 = .ok (.istore_n 2, 1) := by decide +kernel
theorem dX2_copyFrom_13 : decode cX2_copyFrom 13 = .ok (.iload_n 2, 1) := by decide +kernel
theorem dX2_copyFrom_14 : decode cX2_copyFrom 14 = .ok (.iconst 2, 1) := by decide +kernel
theorem dX2_copyFrom_15 : decode cX2_copyFrom 15 = .ok (.if_icmp .ge 36, 3) := by decide +kernel
theorem dX2_copyFrom_18 : decode cX2_copyFrom 18 = .ok (.aload_n 0, 1) := by decide +kernel
theorem dX2_copyFrom_19 : decode cX2_copyFrom 19 = .ok (.getfield 18, 3) := by decide +kernel
theorem dX2_copyFrom_22 : decode cX2_copyFrom 22 = .ok (.iload_n 2, 1) := by decide +kernel
theorem dX2_copyFrom_23 : decode cX2_copyFrom 23 = .ok (.aaload, 1) := by decide +kernel
theorem dX2_copyFrom_24 : decode cX2_copyFrom 24 = .ok (.aload_n 1, 1) := by decide +kernel
theorem dX2_copyFrom_25 : decode cX2_copyFrom 25 = .ok (.getfield 18, 3) := by decide +kernel
theorem dX2_copyFrom_28 : decode cX2_copyFrom 28 = .ok (.iload_n 2, 1) := by decide +kernel
theorem dX2_copyFrom_29 : decode cX2_copyFrom 29 = .ok (.aaload, 1) := by decide +kernel
theorem dX2_copyFrom_30 : decode cX2_copyFrom 30 = .ok (.invokevirtual 26, 3) := by decide +kernel
theorem dX2_copyFrom_33 : decode cX2_copyFrom 33 = .ok (.aload_n 0, 1) := by decide +kernel
theorem dX2_copyFrom_34 : decode cX2_copyFrom 34 = .ok (.getfield 22, 3) := by decide +kernel
theorem dX2_copyFrom_37 : decode cX2_copyFrom 37 = .ok (.iload_n 2, 1) := by decide +kernel
theorem dX2_copyFrom_38 : decode cX2_copyFrom 38 = .ok (.aload_n 1, 1) := by decide +kernel
theorem dX2_copyFrom_39 : decode cX2_copyFrom 39 = .ok (.getfield 22, 3) := by decide +kernel
theorem dX2_copyFrom_42 : decode cX2_copyFrom 42 = .ok (.iload_n 2, 1) := by decide +kernel
theorem dX2_copyFrom_43 : decode cX2_copyFrom 43 = .ok (.baload, 1) := by decide +kernel
theorem dX2_copyFrom_44 : decode cX2_copyFrom 44 = .ok (.bastore, 1) := by decide +kernel
theorem dX2_copyFrom_45 : decode cX2_copyFrom 45 = .ok (.iinc 2 1, 3) := by decide +kernel
theorem dX2_copyFrom_48 : decode cX2_copyFrom 48 = .ok (.goto (-35), 3) := by decide +kernel
theorem dX2_copyFrom_51 : decode cX2_copyFrom 51 = .ok (.return_, 1) := by decide +kernel
theorem dX2_isSlot_0 : decode cX2_isSlot 0 = .ok (.iload_n 0, 1) := by decide +kernel
theorem dX2_isSlot_1 : decode cX2_isSlot 1 = .ok (.ifCond .lt 12, 3) := by decide +kernel
theorem dX2_isSlot_4 : decode cX2_isSlot 4 = .ok (.iload_n 0, 1) := by decide +kernel
theorem dX2_isSlot_5 : decode cX2_isSlot 5 = .ok (.iconst 2, 1) := by decide +kernel
theorem dX2_isSlot_6 : decode cX2_isSlot 6 = .ok (.if_icmp .ge 7, 3) := by decide +kernel
theorem dX2_isSlot_9 : decode cX2_isSlot 9 = .ok (.iconst 1, 1) := by decide +kernel
theorem dX2_isSlot_10 : decode cX2_isSlot 10 = .ok (.goto 4, 3) := by decide +kernel
theorem dX2_isSlot_13 : decode cX2_isSlot 13 = .ok (.iconst 0, 1) := by decide +kernel
theorem dX2_isSlot_14 : decode cX2_isSlot 14 = .ok (.ireturn, 1) := by decide +kernel
set_option maxRecDepth 20000 in
theorem ggX2_keepSnapshot_X2_isSlot : GoodIn wsX2_keepSnapshot wsX2_isSlot := goodIn_r _ [8] (by decide +kernel) (by decide +kernel)
set_option maxRecDepth 20000 in
theorem gX2_keepSnapshot_X2_isSlot : GoodIn wsX2_keepSnapshot (va_wsS RX2 30 yX2_isSlot wsX2_isSlot) := goodIn_app (goodIn_of _ (by decide +kernel)) ggX2_keepSnapshot_X2_isSlot
set_option maxRecDepth 20000 in
theorem ggX2_keepSnapshot_X1_copyFrom : GoodIn wsX2_keepSnapshot wsX1_copyFrom := goodIn_r _ [13, 14, 15, 16, 17, 18, 19, 20, 21, 22, 26, 27, 28, 29, 30] (by decide +kernel) (by decide +kernel)
set_option maxRecDepth 20000 in
theorem gX2_keepSnapshot_X1_copyFrom : GoodIn wsX2_keepSnapshot (wsV RX2 26 RX1 yX1_copyFrom wsX1_copyFrom) := goodIn_app (goodIn_of _ (by decide +kernel)) ggX2_keepSnapshot_X1_copyFrom
theorem dX2_keepSnapshot_0 : decode cX2_keepSnapshot 0 = .ok (.iload_n 1, 1) := by decide +kernel
theorem dX2_keepSnapshot_1 : decode cX2_keepSnapshot 1 = .ok (.invokestatic 30, 3) := by decide +kernel
theorem dX2_keepSnapshot_4 : decode cX2_keepSnapshot 4 = .ok (.ifCond .ne 5, 3) := by decide +kernel
theorem dX2_keepSnapshot_7 : decode cX2_keepSnapshot 7 = .ok (.iconst (-1), 1) := by decide +kernel
theorem dX2_keepSnapshot_8 : decode cX2_keepSnapshot 8 = .ok (.ireturn, 1) := by decide +kernel
theorem dX2_keepSnapshot_9 : decode cX2_keepSnapshot 9 = .ok (.aload_n 0, 1) := by decide +kernel
theorem dX2_keepSnapshot_10 : decode cX2_keepSnapshot 10 = .ok (.getfield 18, 3) := by decide +kernel
theorem dX2_keepSnapshot_13 : decode cX2_keepSnapshot 13 = .ok (.iload_n 1, 1) := by decide +kernel
theorem dX2_keepSnapshot_14 : decode cX2_keepSnapshot 14 = .ok (.aaload, 1) := by decide +kernel
theorem dX2_keepSnapshot_15 : decode cX2_keepSnapshot 15 = .ok (.aload_n 0, 1) := by decide +kernel
theorem dX2_keepSnapshot_16 : decode cX2_keepSnapshot 16 = .ok (.getfield 12, 3) := by decide +kernel
theorem dX2_keepSnapshot_19 : decode cX2_keepSnapshot 19 = .ok (.invokevirtual 26, 3) := by decide +kernel
theorem dX2_keepSnapshot_22 : decode cX2_keepSnapshot 22 = .ok (.aload_n 0, 1) := by decide +kernel
theorem dX2_keepSnapshot_23 : decode cX2_keepSnapshot 23 = .ok (.getfield 22, 3) := by decide +kernel
theorem dX2_keepSnapshot_26 : decode cX2_keepSnapshot 26 = .ok (.iload_n 1, 1) := by decide +kernel
theorem dX2_keepSnapshot_27 : decode cX2_keepSnapshot 27 = .ok (.iconst 1, 1) := by decide +kernel
theorem dX2_keepSnapshot_28 : decode cX2_keepSnapshot 28 = .ok (.bastore, 1) := by decide +kernel
theorem dX2_keepSnapshot_29 : decode cX2_keepSnapshot 29 = .ok (.aload_n 0, 1) := by decide +kernel
theorem dX2_keepSnapshot_30 : decode cX2_keepSnapshot 30 = .ok (.getfield 12, 3) := by decide +kernel
theorem dX2_keepSnapshot_33 : decode cX2_keepSnapshot 33 = .ok (.getfield 34, 3) := by decide +kernel
theorem dX2_keepSnapshot_36 : decode cX2_keepSnapshot 36 = .ok (.ireturn, 1) := by decide +kernel
set_option maxRecDepth 20000 in
theorem ggX2_showSnapshot_X2_isSlot : GoodIn wsX2_showSnapshot wsX2_isSlot := goodIn_r _ [8] (by decide +kernel) (by decide +kernel)
set_option maxRecDepth 20000 in
theorem gX2_showSnapshot_X2_isSlot : GoodIn wsX2_showSnapshot (va_wsS RX2 30 yX2_isSlot wsX2_isSlot) := goodIn_app (goodIn_of _ (by decide +kernel)) ggX2_showSnapshot_X2_isSlot
set_option maxRecDepth 20000 in
theorem ggX2_showSnapshot_X1_copyFrom : GoodIn wsX2_showSnapshot wsX1_copyFrom := goodIn_r _ [13, 14, 15, 16, 17, 18, 19, 20, 21, 22, 26, 27, 28, 29, 30] (by decide +kernel) (by decide +kernel)
set_option maxRecDepth 20000 in
theorem gX2_showSnapshot_X1_copyFrom : GoodIn wsX2_showSnapshot (wsV RX2 26 RX1 yX1_copyFrom wsX1_copyFrom) := goodIn_app (goodIn_of _ (by decide +kernel)) ggX2_showSnapshot_X1_copyFrom
theorem dX2_showSnapshot_0 : decode cX2_showSnapshot 0 = .ok (.iload_n 1, 1) := by decide +kernel
theorem dX2_showSnapshot_1 : decode cX2_showSnapshot 1 = .ok (.invokestatic 30, 3) := by decide +kernel
theorem dX2_showSnapshot_4 : decode cX2_showSnapshot 4 = .ok (.ifCond .ne 5, 3) := by decide +kernel
theorem dX2_showSnapshot_7 : decode cX2_showSnapshot 7 = .ok (.iconst (-1), 1) := by decide +kernel
theorem dX2_showSnapshot_8 : decode cX2_showSnapshot 8 = .ok (.ireturn, 1) := by decide +kernel
theorem dX2_showSnapshot_9 : decode cX2_showSnapshot 9 = .ok (.aload_n 0, 1) := by decide +kernel
theorem dX2_showSnapshot_10 : decode cX2_showSnapshot 10 = .ok (.getfield 22, 3) := by decide +kernel
theorem dX2_showSnapshot_13 : decode cX2_showSnapshot 13 = .ok (.iload_n 1, 1) := by decide +kernel
theorem dX2_showSnapshot_14 : decode cX2_showSnapshot 14 = .ok (.baload, 1) := by decide +kernel
theorem dX2_showSnapshot_15 : decode cX2_showSnapshot 15 = .ok (.ifCond .ne 6, 3) := by decide +kernel
theorem dX2_showSnapshot_18 : decode cX2_showSnapshot 18 = .ok (.bipush (-2), 2) := by decide +kernel
theorem dX2_showSnapshot_20 : decode cX2_showSnapshot 20 = .ok (.ireturn, 1) := by decide +kernel
theorem dX2_showSnapshot_21 : decode cX2_showSnapshot 21 = .ok (.aload_n 0, 1) := by decide +kernel
theorem dX2_showSnapshot_22 : decode cX2_showSnapshot 22 = .ok (.getfield 12, 3) := by decide +kernel
theorem dX2_showSnapshot_25 : decode cX2_showSnapshot 25 = .ok (.aload_n 0, 1) := by decide +kernel
theorem dX2_showSnapshot_26 : decode cX2_showSnapshot 26 = .ok (.getfield 18, 3) := by decide +kernel
theorem dX2_showSnapshot_29 : decode cX2_showSnapshot 29 = .ok (.iload_n 1, 1) := by decide +kernel
theorem dX2_showSnapshot_30 : decode cX2_showSnapshot 30 = .ok (.aaload, 1) := by decide +kernel
theorem dX2_showSnapshot_31 : decode cX2_showSnapshot 31 = .ok (.invokevirtual 26, 3) := by decide +kernel
theorem dX2_showSnapshot_34 : decode cX2_showSnapshot 34 = .ok (.aload_n 0, 1) := by decide +kernel
theorem dX2_showSnapshot_35 : decode cX2_showSnapshot 35 = .ok (.getfield 12, 3) := by decide +kernel
theorem dX2_showSnapshot_38 : decode cX2_showSnapshot 38 = .ok (.getfield 34, 3) := by decide +kernel
theorem dX2_showSnapshot_41 : decode cX2_showSnapshot 41 = .ok (.ireturn, 1) := by decide +kernel
theorem dX2_snapshots_0 : decode cX2_snapshots 0 = .ok (.iconst 0, 1) := by decide +kernel
theorem dX2_snapshots_1 : decode cX2_snapshots 1 = .ok (.istore_n 1, 1) := by decide +kernel
theorem dX2_snapshots_2 : decode cX2_snapshots 2 = .ok (.iconst 0, 1) := by decide +kernel
theorem dX2_snapshots_3 : decode cX2_snapshots 3 = .ok (.istore_n 2, 1) := by decide +kernel
theorem dX2_snapshots_4 : decode cX2_snapshots 4 = .ok (.iload_n 2, 1) := by decide +kernel
theorem dX2_snapshots_5 : decode cX2_snapshots 5 = .ok (.iconst 2, 1) := by decide +kernel
theorem dX2_snapshots_6 : decode cX2_snapshots 6 = .ok (.if_icmp .ge 26, 3) := by decide +kernel
theorem dX2_snapshots_9 : decode cX2_snapshots 9 = .ok (.iload_n 1, 1) := by decide +kernel
theorem dX2_snapshots_10 : decode cX2_snapshots 10 = .ok (.aload_n 0, 1) := by decide +kernel
theorem dX2_snapshots_11 : decode cX2_snapshots 11 = .ok (.getfield 22, 3) := by decide +kernel
theorem dX2_snapshots_14 : decode cX2_snapshots 14 = .ok (.iload_n 2, 1) := by decide +kernel
theorem dX2_snapshots_15 : decode cX2_snapshots 15 = .ok (.baload, 1) := by decide +kernel
theorem dX2_snapshots_16 : decode cX2_snapshots 16 = .ok (.ifCond .eq 7, 3) := by decide +kernel
theorem dX2_snapshots_19 : decode cX2_snapshots 19 = .ok (.iconst 1, 1) := by decide +kernel
theorem dX2_snapshots_20 : decode cX2_snapshots 20 = .ok (.goto 4, 3) := by decide +kernel
theorem dX2_snapshots_23 : decode cX2_snapshots 23 = .ok (.iconst 0, 1) := by decide +kernel
theorem dX2_snapshots_24 : decode cX2_snapshots 24 = .ok (.iadd, 1) := by decide +kernel
theorem dX2_snapshots_25 : decode cX2_snapshots 25 = .ok (.istore_n 1, 1) := by decide +kernel
theorem dX2_snapshots_26 : decode cX2_snapshots 26 = .ok (.iinc 2 1, 3) := by decide +kernel
theorem dX2_snapshots_29 : decode cX2_snapshots 29 = .ok (.goto (-25), 3) := by decide +kernel
theorem dX2_snapshots_32 : decode cX2_snapshots 32 = .ok (.iload_n 1, 1) := by decide +kernel
theorem dX2_snapshots_33 : decode cX2_snapshots 33 = .ok (.ireturn, 1) := by decide +kernel
theorem dX3_init_0 : decode cX3_init 0 = .ok (.aload_n 0, 1) := by decide +kernel
theorem dX3_init_1 : decode cX3_init 1 = .ok (.invokespecial 3, 3) := by decide +kernel
theorem dX3_init_4 : decode cX3_init 4 = .ok (.aload_n 0, 1) := by decide +kernel
theorem dX3_init_5 : decode cX3_init 5 = .ok (.bipush 12, 2) := by decide +kernel
theorem dX3_init_7 : decode cX3_init 7 = .ok (.newarray .int, 2) := by decide +kernel
theorem dX3_init_9 : decode cX3_init 9 = .ok (.putfield 9, 3) := by decide +kernel
theorem dX3_init_12 : decode cX3_init 12 = .ok (.aload_n 0, 1) := by decide +kernel
theorem dX3_init_13 : decode cX3_init 13 = .ok (.ldc 15, 2) := by decide +kernel
theorem dX3_init_15 : decode cX3_init 15 = .ok (.newarray .int, 2) := by decide +kernel
theorem dX3_init_17 : decode cX3_init 17 = .ok (.putfield 16, 3) := by decide +kernel
theorem dX3_init_20 : decode cX3_init 20 = .ok (.aload_n 0, 1) := by decide +kernel
theorem dX3_init_21 : decode cX3_init 21 = .ok (.bipush 12, 2) := by decide +kernel
theorem dX3_init_23 : decode cX3_init 23 = .ok (.newarray .int, 2) := by decide +kernel
theorem dX3_init_25 : decode cX3_init 25 = .ok (.putfield 19, 3) := by decide +kernel
theorem dX3_init_28 : decode cX3_init 28 = .ok (.return_, 1) := by decide +kernel
set_option maxRecDepth 20000 in
theorem ggX3_plan_X3_listSpots : GoodIn wsX3_plan wsX3_listSpots := goodIn_r _ [6, 7, 1, 8, 9, 10, 11, 41, 42, 43, 44, 45, 46] (by decide +kernel) (by decide +kernel)
set_option maxRecDepth 20000 in
theorem gX3_plan_X3_listSpots : GoodIn wsX3_plan (wsV RX3 26 RX3 yX3_listSpots wsX3_listSpots) := goodIn_app (goodIn_of _ (by decide +kernel)) ggX3_plan_X3_listSpots
set_option maxRecDepth 20000 in
theorem ggX3_plan_X3_fillRest : GoodIn wsX3_plan wsX3_fillRest := goodIn_r _ [15, 7, 16, 8, 17, 18, 19, 5, 20, 21, 22, 23, 24, 25, 26, 27, 28, 29, 10, 30, 31, 32, 33, 34, 41, 42, 43, 44, 45, 46] (by decide +kernel) (by decide +kernel)
set_option maxRecDepth 20000 in
theorem gX3_plan_X3_fillRest : GoodIn wsX3_plan (wsV RX3 29 RX3 yX3_fillRest wsX3_fillRest) := goodIn_app (goodIn_of _ (by decide +kernel)) ggX3_plan_X3_fillRest
set_option maxRecDepth 20000 in
theorem ggX3_plan_X3_follow : GoodIn wsX3_plan wsX3_follow := goodIn_r _ [38, 39, 7, 40, 8, 21, 22, 23, 5, 24, 25, 26, 27, 28, 16, 29, 10, 30, 31, 32, 33, 34, 41, 42, 43, 44, 45, 46] (by decide +kernel) (by decide +kernel)
set_option maxRecDepth 20000 in
theorem gX3_plan_X3_follow : GoodIn wsX3_plan (wsV RX3 32 RX3 yX3_follow wsX3_follow) := goodIn_app (goodIn_of _ (by decide +kernel)) ggX3_plan_X3_follow
theorem dX3_plan_0 : decode cX3_plan 0 = .ok (.lload_n 1, 1) := by decide +kernel
theorem dX3_plan_1 : decode cX3_plan 1 = .ok (.aload_n 0, 1) := by decide +kernel
theorem dX3_plan_2 : decode cX3_plan 2 = .ok (.getfield 22, 3) := by decide +kernel
theorem dX3_plan_5 : decode cX3_plan 5 = .ok (.lcmp, 1) := by decide +kernel
theorem dX3_plan_6 : decode cX3_plan 6 = .ok (.ifCond .ne 4, 3) := by decide +kernel
theorem dX3_plan_9 : decode cX3_plan 9 = .ok (.return_, 1) := by decide +kernel
theorem dX3_plan_10 : decode cX3_plan 10 = .ok (.aload_n 0, 1) := by decide +kernel
theorem dX3_plan_11 : decode cX3_plan 11 = .ok (.lload_n 1, 1) := by decide +kernel
theorem dX3_plan_12 : decode cX3_plan 12 = .ok (.putfield 22, 3) := by decide +kernel
theorem dX3_plan_15 : decode cX3_plan 15 = .ok (.aload_n 0, 1) := by decide +kernel
theorem dX3_plan_16 : decode cX3_plan 16 = .ok (.invokevirtual 26, 3) := by decide +kernel
theorem dX3_plan_19 : decode cX3_plan 19 = .ok (.aload_n 0, 1) := by decide +kernel
theorem dX3_plan_20 : decode cX3_plan 20 = .ok (.invokevirtual 29, 3) := by decide +kernel
theorem dX3_plan_23 : decode cX3_plan 23 = .ok (.aload_n 0, 1) := by decide +kernel
theorem dX3_plan_24 : decode cX3_plan 24 = .ok (.invokevirtual 32, 3) := by decide +kernel
theorem dX3_plan_27 : decode cX3_plan 27 = .ok (.return_, 1) := by decide +kernel
theorem dX3_sumOfWays_0 : decode cX3_sumOfWays 0 = .ok (.aload_n 0, 1) := by decide +kernel
theorem dX3_sumOfWays_1 : decode cX3_sumOfWays 1 = .ok (.getfield 35, 3) := by decide +kernel
theorem dX3_sumOfWays_4 : decode cX3_sumOfWays 4 = .ok (.ireturn, 1) := by decide +kernel
theorem dX3_stop_0 : decode cX3_stop 0 = .ok (.iload_n 1, 1) := by decide +kernel
theorem dX3_stop_1 : decode cX3_stop 1 = .ok (.ifCond .lt 20, 3) := by decide +kernel
theorem dX3_stop_4 : decode cX3_stop 4 = .ok (.iload_n 1, 1) := by decide +kernel
theorem dX3_stop_5 : decode cX3_stop 5 = .ok (.aload_n 0, 1) := by decide +kernel
theorem dX3_stop_6 : decode cX3_stop 6 = .ok (.getfield 39, 3) := by decide +kernel
theorem dX3_stop_9 : decode cX3_stop 9 = .ok (.if_icmp .ge 12, 3) := by decide +kernel
theorem dX3_stop_12 : decode cX3_stop 12 = .ok (.aload_n 0, 1) := by decide +kernel
theorem dX3_stop_13 : decode cX3_stop 13 = .ok (.getfield 19, 3) := by decide +kernel
theorem dX3_stop_16 : decode cX3_stop 16 = .ok (.iload_n 1, 1) := by decide +kernel
theorem dX3_stop_17 : decode cX3_stop 17 = .ok (.iaload, 1) := by decide +kernel
theorem dX3_stop_18 : decode cX3_stop 18 = .ok (.goto 5, 3) := by decide +kernel
theorem dX3_stop_21 : decode cX3_stop 21 = .ok (.bipush (-9), 2) := by decide +kernel
theorem dX3_stop_23 : decode cX3_stop 23 = .ok (.ireturn, 1) := by decide +kernel
set_option maxRecDepth 20000 in
theorem ggX3_listSpots_X4_bit : GoodIn wsX3_listSpots wsX4_bit := goodIn_r _ [6] (by decide +kernel) (by decide +kernel)
set_option maxRecDepth 20000 in
theorem gX3_listSpots_X4_bit_n42 : GoodIn wsX3_listSpots (wsX4_bit) := ggX3_listSpots_X4_bit
theorem dX3_listSpots_0 : decode cX3_listSpots 0 = .ok (.aload_n 0, 1) := by decide +kernel
theorem dX3_listSpots_1 : decode cX3_listSpots 1 = .ok (.iconst 0, 1) := by decide +kernel
theorem dX3_listSpots_2 : decode cX3_listSpots 2 = .ok (.putfield 39, 3) := by decide +kernel
theorem dX3_listSpots_5 : decode cX3_listSpots 5 = .ok (.iconst 0, 1) := by decide +kernel
theorem dX3_listSpots_6 : decode cX3_listSpots 6 = .ok (.istore_n 1, 1) := by decide +kernel
theorem dX3_listSpots_7 : decode cX3_listSpots 7 = .ok (.iload_n 1, 1) := by decide +kernel
theorem dX3_listSpots_8 : decode cX3_listSpots 8 = .ok (.bipush 64, 2) := by decide +kernel
theorem dX3_listSpots_10 : decode cX3_listSpots 10 = .ok (.if_icmp .ge 50, 3) := by decide +kernel
theorem dX3_listSpots_13 : decode cX3_listSpots 13 = .ok (.aload_n 0, 1) := by decide +kernel
theorem dX3_listSpots_14 : decode cX3_listSpots 14 = .ok (.getfield 39, 3) := by decide +kernel
theorem dX3_listSpots_17 : decode cX3_listSpots 17 = .ok (.bipush 12, 2) := by decide +kernel
theorem dX3_listSpots_19 : decode cX3_listSpots 19 = .ok (.if_icmp .ge 41, 3) := by decide +kernel
theorem dX3_listSpots_22 : decode cX3_listSpots 22 = .ok (.aload_n 0, 1) := by decide +kernel
theorem dX3_listSpots_23 : decode cX3_listSpots 23 = .ok (.getfield 22, 3) := by decide +kernel
theorem dX3_listSpots_26 : decode cX3_listSpots 26 = .ok (.iload_n 1, 1) := by decide +kernel
theorem dX3_listSpots_27 : decode cX3_listSpots 27 = .ok (.invokestatic 42, 3) := by decide +kernel
theorem dX3_listSpots_30 : decode cX3_listSpots 30 = .ok (.iconst 1, 1) := by decide +kernel
theorem dX3_listSpots_31 : decode cX3_listSpots 31 = .ok (.if_icmp .ne 23, 3) := by decide +kernel
theorem dX3_listSpots_34 : decode cX3_listSpots 34 = .ok (.aload_n 0, 1) := by decide +kernel
theorem dX3_listSpots_35 : decode cX3_listSpots 35 = .ok (.getfield 9, 3) := by decide +kernel
theorem dX3_listSpots_38 : decode cX3_listSpots 38 = .ok (.aload_n 0, 1) := by decide +kernel
theorem dX3_listSpots_39 : decode cX3_listSpots 39 = .ok (.getfield 39, 3) := by decide +kernel
theorem dX3_listSpots_42 : decode cX3_listSpots 42 = .ok (.iload_n 1, 1) := by decide +kernel
theorem dX3_listSpots_43 : decode cX3_listSpots 43 = .ok (.iastore, 1) := by decide +kernel
theorem dX3_listSpots_44 : decode cX3_listSpots 44 = .ok (.aload_n 0, 1) := by decide +kernel
theorem dX3_listSpots_45 : decode cX3_listSpots 45 = .ok (.dup, 1) := by decide +kernel
theorem dX3_listSpots_46 : decode cX3_listSpots 46 = .ok (.getfield 39, 3) := by decide +kernel
theorem dX3_listSpots_49 : decode cX3_listSpots 49 = .ok (.iconst 1, 1) := by decide +kernel
theorem dX3_listSpots_50 : decode cX3_listSpots 50 = .ok (.iadd, 1) := by decide +kernel
theorem dX3_listSpots_51 : decode cX3_listSpots 51 = .ok (.putfield 39, 3) := by decide +kernel
theorem dX3_listSpots_54 : decode cX3_listSpots 54 = .ok (.iinc 1 1, 3) := by decide +kernel
theorem dX3_listSpots_57 : decode cX3_listSpots 57 = .ok (.goto (-50), 3) := by decide +kernel
theorem dX3_listSpots_60 : decode cX3_listSpots 60 = .ok (.return_, 1) := by decide +kernel
set_option maxRecDepth 20000 in
theorem ggX3_fillRest_X3_leastFrom : GoodIn wsX3_fillRest wsX3_leastFrom := goodIn_r _ [8, 9, 10, 11, 7, 12, 1, 13, 14, 15, 16, 3, 2, 17, 18, 19, 20, 21, 22, 23, 24, 25, 26, 27, 28, 29] (by decide +kernel) (by decide +kernel)
set_option maxRecDepth 20000 in
theorem gX3_fillRest_X3_leastFrom : GoodIn wsX3_fillRest (wsV RX3 46 RX3 yX3_leastFrom wsX3_leastFrom) := goodIn_app (goodIn_of _ (by decide +kernel)) ggX3_fillRest_X3_leastFrom
theorem dX3_fillRest_0 : decode cX3_fillRest 0 = .ok (.iconst 0, 1) := by decide +kernel
theorem dX3_fillRest_1 : decode cX3_fillRest 1 = .ok (.istore_n 1, 1) := by decide +kernel
theorem dX3_fillRest_2 : decode cX3_fillRest 2 = .ok (.iload_n 1, 1) := by decide +kernel
theorem dX3_fillRest_3 : decode cX3_fillRest 3 = .ok (.iconst 1, 1) := by decide +kernel
theorem dX3_fillRest_4 : decode cX3_fillRest 4 = .ok (.aload_n 0, 1) := by decide +kernel
theorem dX3_fillRest_5 : decode cX3_fillRest 5 = .ok (.getfield 39, 3) := by decide +kernel
theorem dX3_fillRest_8 : decode cX3_fillRest 8 = .ok (.ishl, 1) := by decide +kernel
theorem dX3_fillRest_9 : decode cX3_fillRest 9 = .ok (.if_icmp .ge 55, 3) := by decide +kernel
theorem dX3_fillRest_12 : decode cX3_fillRest 12 = .ok (.iconst 0, 1) := by decide +kernel
theorem dX3_fillRest_13 : decode cX3_fillRest 13 = .ok (.istore_n 2, 1) := by decide +kernel
theorem dX3_fillRest_14 : decode cX3_fillRest 14 = .ok (.iload_n 2, 1) := by decide +kernel
theorem dX3_fillRest_15 : decode cX3_fillRest 15 = .ok (.aload_n 0, 1) := by decide +kernel
theorem dX3_fillRest_16 : decode cX3_fillRest 16 = .ok (.getfield 39, 3) := by decide +kernel
theorem dX3_fillRest_19 : decode cX3_fillRest 19 = .ok (.if_icmp .ge 39, 3) := by decide +kernel
theorem dX3_fillRest_22 : decode cX3_fillRest 22 = .ok (.iload_n 1, 1) := by decide +kernel
theorem dX3_fillRest_23 : decode cX3_fillRest 23 = .ok (.iload_n 2, 1) := by decide +kernel
theorem dX3_fillRest_24 : decode cX3_fillRest 24 = .ok (.ishr, 1) := by decide +kernel
theorem dX3_fillRest_25 : decode cX3_fillRest 25 = .ok (.iconst 1, 1) := by decide +kernel
theorem dX3_fillRest_26 : decode cX3_fillRest 26 = .ok (.iand, 1) := by decide +kernel
theorem dX3_fillRest_27 : decode cX3_fillRest 27 = .ok (.ifCond .ne 25, 3) := by decide +kernel
theorem dX3_fillRest_30 : decode cX3_fillRest 30 = .ok (.aload_n 0, 1) := by decide +kernel
theorem dX3_fillRest_31 : decode cX3_fillRest 31 = .ok (.getfield 16, 3) := by decide +kernel
theorem dX3_fillRest_34 : decode cX3_fillRest 34 = .ok (.iload_n 1, 1) := by decide +kernel
theorem dX3_fillRest_35 : decode cX3_fillRest 35 = .ok (.bipush 12, 2) := by decide +kernel
theorem dX3_fillRest_37 : decode cX3_fillRest 37 = .ok (.imul, 1) := by decide +kernel
theorem dX3_fillRest_38 : decode cX3_fillRest 38 = .ok (.iload_n 2, 1) := by decide +kernel
theorem dX3_fillRest_39 : decode cX3_fillRest 39 = .ok (.iadd, 1) := by decide +kernel
theorem dX3_fillRest_40 : decode cX3_fillRest 40 = .ok (.aload_n 0, 1) := by decide +kernel
theorem dX3_fillRest_41 : decode cX3_fillRest 41 = .ok (.iload_n 1, 1) := by decide +kernel
theorem dX3_fillRest_42 : decode cX3_fillRest 42 = .ok (.aload_n 0, 1) := by decide +kernel
theorem dX3_fillRest_43 : decode cX3_fillRest 43 = .ok (.getfield 9, 3) := by decide +kernel
theorem dX3_fillRest_46 : decode cX3_fillRest 46 = .ok (.iload_n 2, 1) := by decide +kernel
theorem dX3_fillRest_47 : decode cX3_fillRest 47 = .ok (.iaload, 1) := by decide +kernel
theorem dX3_fillRest_48 : decode cX3_fillRest 48 = .ok (.invokevirtual 46, 3) := by decide +kernel
theorem dX3_fillRest_51 : decode cX3_fillRest 51 = .ok (.iastore, 1) := by decide +kernel
theorem dX3_fillRest_52 : decode cX3_fillRest 52 = .ok (.iinc 2 1, 3) := by decide +kernel
theorem dX3_fillRest_55 : decode cX3_fillRest 55 = .ok (.goto (-41), 3) := by decide +kernel
theorem dX3_fillRest_58 : decode cX3_fillRest 58 = .ok (.iinc 1 1, 3) := by decide +kernel
theorem dX3_fillRest_61 : decode cX3_fillRest 61 = .ok (.goto (-59), 3) := by decide +kernel
theorem dX3_fillRest_64 : decode cX3_fillRest 64 = .ok (.return_, 1) := by decide +kernel
set_option maxRecDepth 20000 in
theorem ggX3_leastFrom_X3_bestStep : GoodIn wsX3_leastFrom wsX3_bestStep := goodIn_r _ [5, 6, 7, 8, 9, 4, 10, 11, 12, 13, 14, 15, 16, 17, 18, 19, 20, 21, 22, 23, 24, 25] (by decide +kernel) (by decide +kernel)
set_option maxRecDepth 20000 in
theorem gX3_leastFrom_X3_bestStep : GoodIn wsX3_leastFrom (wsV RX3 50 RX3 yX3_bestStep wsX3_bestStep) := goodIn_app (goodIn_of _ (by decide +kernel)) ggX3_leastFrom_X3_bestStep
set_option maxRecDepth 20000 in
theorem ggX3_leastFrom_X3_travelBy : GoodIn wsX3_leastFrom wsX3_travelBy := goodIn_r _ [10, 11, 12, 13, 14, 15, 16, 17, 18, 19, 20, 21, 22, 23, 24, 25] (by decide +kernel) (by decide +kernel)
set_option maxRecDepth 20000 in
theorem gX3_leastFrom_X3_travelBy : GoodIn wsX3_leastFrom (wsV RX3 53 RX3 yX3_travelBy wsX3_travelBy) := goodIn_app (goodIn_of _ (by decide +kernel)) ggX3_leastFrom_X3_travelBy
theorem dX3_leastFrom_0 : decode cX3_leastFrom 0 = .ok (.aload_n 0, 1) := by decide +kernel
theorem dX3_leastFrom_1 : decode cX3_leastFrom 1 = .ok (.iload_n 1, 1) := by decide +kernel
theorem dX3_leastFrom_2 : decode cX3_leastFrom 2 = .ok (.iload_n 2, 1) := by decide +kernel
theorem dX3_leastFrom_3 : decode cX3_leastFrom 3 = .ok (.invokevirtual 50, 3) := by decide +kernel
theorem dX3_leastFrom_6 : decode cX3_leastFrom 6 = .ok (.istore_n 3, 1) := by decide +kernel
theorem dX3_leastFrom_7 : decode cX3_leastFrom 7 = .ok (.iload_n 3, 1) := by decide +kernel
theorem dX3_leastFrom_8 : decode cX3_leastFrom 8 = .ok (.ifCond .ge 7, 3) := by decide +kernel
theorem dX3_leastFrom_11 : decode cX3_leastFrom 11 = .ok (.iconst 0, 1) := by decide +kernel
theorem dX3_leastFrom_12 : decode cX3_leastFrom 12 = .ok (.goto 10, 3) := by decide +kernel
theorem dX3_leastFrom_15 : decode cX3_leastFrom 15 = .ok (.aload_n 0, 1) := by decide +kernel
theorem dX3_leastFrom_16 : decode cX3_leastFrom 16 = .ok (.iload_n 1, 1) := by decide +kernel
theorem dX3_leastFrom_17 : decode cX3_leastFrom 17 = .ok (.iload_n 2, 1) := by decide +kernel
theorem dX3_leastFrom_18 : decode cX3_leastFrom 18 = .ok (.iload_n 3, 1) := by decide +kernel
theorem dX3_leastFrom_19 : decode cX3_leastFrom 19 = .ok (.invokevirtual 53, 3) := by decide +kernel
theorem dX3_leastFrom_22 : decode cX3_leastFrom 22 = .ok (.ireturn, 1) := by decide +kernel
set_option maxRecDepth 20000 in
theorem ggX3_travelBy_X4_way : GoodIn wsX3_travelBy wsX4_way := goodIn_r _ [5, 6, 7, 8, 9] (by decide +kernel) (by decide +kernel)
set_option maxRecDepth 20000 in
theorem gX3_travelBy_X4_way_n57 : GoodIn wsX3_travelBy (wsX4_way) := ggX3_travelBy_X4_way
theorem dX3_travelBy_0 : decode cX3_travelBy 0 = .ok (.iload_n 2, 1) := by decide +kernel
theorem dX3_travelBy_1 : decode cX3_travelBy 1 = .ok (.aload_n 0, 1) := by decide +kernel
theorem dX3_travelBy_2 : decode cX3_travelBy 2 = .ok (.getfield 9, 3) := by decide +kernel
theorem dX3_travelBy_5 : decode cX3_travelBy 5 = .ok (.iload_n 3, 1) := by decide +kernel
theorem dX3_travelBy_6 : decode cX3_travelBy 6 = .ok (.iaload, 1) := by decide +kernel
theorem dX3_travelBy_7 : decode cX3_travelBy 7 = .ok (.invokestatic 57, 3) := by decide +kernel
theorem dX3_travelBy_10 : decode cX3_travelBy 10 = .ok (.aload_n 0, 1) := by decide +kernel
theorem dX3_travelBy_11 : decode cX3_travelBy 11 = .ok (.getfield 16, 3) := by decide +kernel
theorem dX3_travelBy_14 : decode cX3_travelBy 14 = .ok (.iload_n 1, 1) := by decide +kernel
theorem dX3_travelBy_15 : decode cX3_travelBy 15 = .ok (.iconst 1, 1) := by decide +kernel
theorem dX3_travelBy_16 : decode cX3_travelBy 16 = .ok (.iload_n 3, 1) := by decide +kernel
theorem dX3_travelBy_17 : decode cX3_travelBy 17 = .ok (.ishl, 1) := by decide +kernel
theorem dX3_travelBy_18 : decode cX3_travelBy 18 = .ok (.iconst (-1), 1) := by decide +kernel
theorem dX3_travelBy_19 : decode cX3_travelBy 19 = .ok (.ixor, 1) := by decide +kernel
theorem dX3_travelBy_20 : decode cX3_travelBy 20 = .ok (.iand, 1) := by decide +kernel
theorem dX3_travelBy_21 : decode cX3_travelBy 21 = .ok (.bipush 12, 2) := by decide +kernel
theorem dX3_travelBy_23 : decode cX3_travelBy 23 = .ok (.imul, 1) := by decide +kernel
theorem dX3_travelBy_24 : decode cX3_travelBy 24 = .ok (.iload_n 3, 1) := by decide +kernel
theorem dX3_travelBy_25 : decode cX3_travelBy 25 = .ok (.iadd, 1) := by decide +kernel
theorem dX3_travelBy_26 : decode cX3_travelBy 26 = .ok (.iaload, 1) := by decide +kernel
theorem dX3_travelBy_27 : decode cX3_travelBy 27 = .ok (.iadd, 1) := by decide +kernel
theorem dX3_travelBy_28 : decode cX3_travelBy 28 = .ok (.ireturn, 1) := by decide +kernel
set_option maxRecDepth 20000 in
theorem ggX3_bestStep_X3_travelBy : GoodIn wsX3_bestStep wsX3_travelBy := goodIn_r _ [6, 7, 8, 9, 10, 11, 12, 13, 14, 15, 16, 17, 18, 19, 20, 21] (by decide +kernel) (by decide +kernel)
set_option maxRecDepth 20000 in
theorem gX3_bestStep_X3_travelBy : GoodIn wsX3_bestStep (wsV RX3 53 RX3 yX3_travelBy wsX3_travelBy) := goodIn_app (goodIn_of _ (by decide +kernel)) ggX3_bestStep_X3_travelBy
theorem dX3_bestStep_0 : decode cX3_bestStep 0 = .ok (.iconst (-1), 1) := by decide +kernel
theorem dX3_bestStep_1 : decode cX3_bestStep 1 = .ok (.istore_n 3, 1) := by decide +kernel
theorem dX3_bestStep_2 : decode cX3_bestStep 2 = .ok (.iconst 0, 1) := by decide +kernel
theorem dX3_bestStep_3 : decode cX3_bestStep 3 = .ok (.istore 4, 2) := by decide +kernel
theorem dX3_bestStep_5 : decode cX3_bestStep 5 = .ok (.iconst 0, 1) := by decide +kernel
theorem dX3_bestStep_6 : decode cX3_bestStep 6 = .ok (.istore 5, 2) := by decide +kernel
theorem dX3_bestStep_8 : decode cX3_bestStep 8 = .ok (.iload 5, 2) := by decide +kernel
theorem dX3_bestStep_10 : decode cX3_bestStep 10 = .ok (.aload_n 0, 1) := by decide +kernel
theorem dX3_bestStep_11 : decode cX3_bestStep 11 = .ok (.getfield 39, 3) := by decide +kernel
theorem dX3_bestStep_14 : decode cX3_bestStep 14 = .ok (.if_icmp .ge 47, 3) := by decide +kernel
theorem dX3_bestStep_17 : decode cX3_bestStep 17 = .ok (.iload_n 1, 1) := by decide +kernel
theorem dX3_bestStep_18 : decode cX3_bestStep 18 = .ok (.iload 5, 2) := by decide +kernel
theorem dX3_bestStep_20 : decode cX3_bestStep 20 = .ok (.ishr, 1) := by decide +kernel
theorem dX3_bestStep_21 : decode cX3_bestStep 21 = .ok (.iconst 1, 1) := by decide +kernel
theorem dX3_bestStep_22 : decode cX3_bestStep 22 = .ok (.iand, 1) := by decide +kernel
theorem dX3_bestStep_23 : decode cX3_bestStep 23 = .ok (.iconst 1, 1) := by decide +kernel
theorem dX3_bestStep_24 : decode cX3_bestStep 24 = .ok (.if_icmp .ne 31, 3) := by decide +kernel
theorem dX3_bestStep_27 : decode cX3_bestStep 27 = .ok (.aload_n 0, 1) := by decide +kernel
theorem dX3_bestStep_28 : decode cX3_bestStep 28 = .ok (.iload_n 1, 1) := by decide +kernel
theorem dX3_bestStep_29 : decode cX3_bestStep 29 = .ok (.iload_n 2, 1) := by decide +kernel
theorem dX3_bestStep_30 : decode cX3_bestStep 30 = .ok (.iload 5, 2) := by decide +kernel
theorem dX3_bestStep_32 : decode cX3_bestStep 32 = .ok (.invokevirtual 53, 3) := by decide +kernel
theorem dX3_bestStep_35 : decode cX3_bestStep 35 = .ok (.istore 6, 2) := by decide +kernel
theorem dX3_bestStep_37 : decode cX3_bestStep 37 = .ok (.iload_n 3, 1) := by decide +kernel
theorem dX3_bestStep_38 : decode cX3_bestStep 38 = .ok (.ifCond .lt 10, 3) := by decide +kernel
theorem dX3_bestStep_41 : decode cX3_bestStep 41 = .ok (.iload 6, 2) := by decide +kernel
theorem dX3_bestStep_43 : decode cX3_bestStep 43 = .ok (.iload 4, 2) := by decide +kernel
theorem dX3_bestStep_45 : decode cX3_bestStep 45 = .ok (.if_icmp .ge 10, 3) := by decide +kernel
theorem dX3_bestStep_48 : decode cX3_bestStep 48 = .ok (.iload 5, 2) := by decide +kernel
theorem dX3_bestStep_50 : decode cX3_bestStep 50 = .ok (.istore_n 3, 1) := by decide +kernel
theorem dX3_bestStep_51 : decode cX3_bestStep 51 = .ok (.iload 6, 2) := by decide +kernel
theorem dX3_bestStep_53 : decode cX3_bestStep 53 = .ok (.istore 4, 2) := by decide +kernel
theorem dX3_bestStep_55 : decode cX3_bestStep 55 = .ok (.iinc 5 1, 3) := by decide +kernel
theorem dX3_bestStep_58 : decode cX3_bestStep 58 = .ok (.goto (-50), 3) := by decide +kernel
theorem dX3_bestStep_61 : decode cX3_bestStep 61 = .ok (.iload_n 3, 1) := by decide +kernel
theorem dX3_bestStep_62 : decode cX3_bestStep 62 = .ok (.ireturn, 1) := by decide +kernel
set_option maxRecDepth 20000 in
theorem ggX3_follow_X3_bestStep : GoodIn wsX3_follow wsX3_bestStep := goodIn_r _ [9, 2, 10, 11, 12, 8, 13, 4, 14, 15, 16, 17, 18, 19, 20, 21, 22, 23, 24, 25, 26, 27] (by decide +kernel) (by decide +kernel)
set_option maxRecDepth 20000 in
theorem gX3_follow_X3_bestStep : GoodIn wsX3_follow (wsV RX3 50 RX3 yX3_bestStep wsX3_bestStep) := goodIn_app (goodIn_of _ (by decide +kernel)) ggX3_follow_X3_bestStep
set_option maxRecDepth 20000 in
theorem ggX3_follow_X4_way : GoodIn wsX3_follow wsX4_way := goodIn_r _ [17, 18, 19, 20, 21] (by decide +kernel) (by decide +kernel)
set_option maxRecDepth 20000 in
theorem gX3_follow_X4_way_n57 : GoodIn wsX3_follow (wsX4_way) := ggX3_follow_X4_way
theorem dX3_follow_0 : decode cX3_follow 0 = .ok (.aload_n 0, 1) := by decide +kernel
theorem dX3_follow_1 : decode cX3_follow 1 = .ok (.iconst 0, 1) := by decide +kernel
theorem dX3_follow_2 : decode cX3_follow 2 = .ok (.putfield 35, 3) := by decide +kernel
theorem dX3_follow_5 : decode cX3_follow 5 = .ok (.iconst 0, 1) := by decide +kernel
theorem dX3_follow_6 : decode cX3_follow 6 = .ok (.istore_n 1, 1) := by decide +kernel
theorem dX3_follow_7 : decode cX3_follow 7 = .ok (.iconst 1, 1) := by decide +kernel
theorem dX3_follow_8 : decode cX3_follow 8 = .ok (.aload_n 0, 1) := by decide +kernel
theorem dX3_follow_9 : decode cX3_follow 9 = .ok (.getfield 39, 3) := by decide +kernel
theorem dX3_follow_12 : decode cX3_follow 12 = .ok (.ishl, 1) := by decide +kernel
theorem dX3_follow_13 : decode cX3_follow 13 = .ok (.iconst 1, 1) := by decide +kernel
theorem dX3_follow_14 : decode cX3_follow 14 = .ok (.isub, 1) := by decide +kernel
theorem dX3_follow_15 : decode cX3_follow 15 = .ok (.istore_n 2, 1) := by decide +kernel
theorem dX3_follow_16 : decode cX3_follow 16 = .ok (.iconst 0, 1) := by decide +kernel
theorem dX3_follow_17 : decode cX3_follow 17 = .ok (.istore_n 3, 1) := by decide +kernel
theorem dX3_follow_18 : decode cX3_follow 18 = .ok (.iload_n 3, 1) := by decide +kernel
theorem dX3_follow_19 : decode cX3_follow 19 = .ok (.aload_n 0, 1) := by decide +kernel
theorem dX3_follow_20 : decode cX3_follow 20 = .ok (.getfield 39, 3) := by decide +kernel
theorem dX3_follow_23 : decode cX3_follow 23 = .ok (.if_icmp .ge 73, 3) := by decide +kernel
theorem dX3_follow_26 : decode cX3_follow 26 = .ok (.aload_n 0, 1) := by decide +kernel
theorem dX3_follow_27 : decode cX3_follow 27 = .ok (.iload_n 2, 1) := by decide +kernel
theorem dX3_follow_28 : decode cX3_follow 28 = .ok (.iload_n 1, 1) := by decide +kernel
theorem dX3_follow_29 : decode cX3_follow 29 = .ok (.invokevirtual 50, 3) := by decide +kernel
theorem dX3_follow_32 : decode cX3_follow 32 = .ok (.istore 4, 2) := by decide +kernel
theorem dX3_follow_34 : decode cX3_follow 34 = .ok (.iload 4, 2) := by decide +kernel
theorem dX3_follow_36 : decode cX3_follow 36 = .ok (.ifCond .ge 4, 3) := by decide +kernel
theorem dX3_follow_39 : decode cX3_follow 39 = .ok (.return_, 1) := by decide +kernel
theorem dX3_follow_40 : decode cX3_follow 40 = .ok (.aload_n 0, 1) := by decide +kernel
theorem dX3_follow_41 : decode cX3_follow 41 = .ok (.getfield 19, 3) := by decide +kernel
theorem dX3_follow_44 : decode cX3_follow 44 = .ok (.iload_n 3, 1) := by decide +kernel
theorem dX3_follow_45 : decode cX3_follow 45 = .ok (.aload_n 0, 1) := by decide +kernel
theorem dX3_follow_46 : decode cX3_follow 46 = .ok (.getfield 9, 3) := by decide +kernel
theorem dX3_follow_49 : decode cX3_follow 49 = .ok (.iload 4, 2) := by decide +kernel
theorem dX3_follow_51 : decode cX3_follow 51 = .ok (.iaload, 1) := by decide +kernel
theorem dX3_follow_52 : decode cX3_follow 52 = .ok (.iastore, 1) := by decide +kernel
theorem dX3_follow_53 : decode cX3_follow 53 = .ok (.aload_n 0, 1) := by decide +kernel
theorem dX3_follow_54 : decode cX3_follow 54 = .ok (.dup, 1) := by decide +kernel
theorem dX3_follow_55 : decode cX3_follow 55 = .ok (.getfield 35, 3) := by decide +kernel
theorem dX3_follow_58 : decode cX3_follow 58 = .ok (.iload_n 1, 1) := by decide +kernel
theorem dX3_follow_59 : decode cX3_follow 59 = .ok (.aload_n 0, 1) := by decide +kernel
theorem dX3_follow_60 : decode cX3_follow 60 = .ok (.getfield 9, 3) := by decide +kernel
theorem dX3_follow_63 : decode cX3_follow 63 = .ok (.iload 4, 2) := by decide +kernel
theorem dX3_follow_65 : decode cX3_follow 65 = .ok (.iaload, 1) := by decide +kernel
theorem dX3_follow_66 : decode cX3_follow 66 = .ok (.invokestatic 57, 3) := by decide +kernel
theorem dX3_follow_69 : decode cX3_follow 69 = .ok (.iadd, 1) := by decide +kernel
theorem dX3_follow_70 : decode cX3_follow 70 = .ok (.putfield 35, 3) := by decide +kernel
theorem dX3_follow_73 : decode cX3_follow 73 = .ok (.aload_n 0, 1) := by decide +kernel
theorem dX3_follow_74 : decode cX3_follow 74 = .ok (.getfield 9, 3) := by decide +kernel
theorem dX3_follow_77 : decode cX3_follow 77 = .ok (.iload 4, 2) := by decide +kernel
theorem dX3_follow_79 : decode cX3_follow 79 = .ok (.iaload, 1) := by decide +kernel
theorem dX3_follow_80 : decode cX3_follow 80 = .ok (.istore_n 1, 1) := by decide +kernel
theorem dX3_follow_81 : decode cX3_follow 81 = .ok (.iload_n 2, 1) := by decide +kernel
theorem dX3_follow_82 : decode cX3_follow 82 = .ok (.iconst 1, 1) := by decide +kernel
theorem dX3_follow_83 : decode cX3_follow 83 = .ok (.iload 4, 2) := by decide +kernel
theorem dX3_follow_85 : decode cX3_follow 85 = .ok (.ishl, 1) := by decide +kernel
theorem dX3_follow_86 : decode cX3_follow 86 = .ok (.iconst (-1), 1) := by decide +kernel
theorem dX3_follow_87 : decode cX3_follow 87 = .ok (.ixor, 1) := by decide +kernel
theorem dX3_follow_88 : decode cX3_follow 88 = .ok (.iand, 1) := by decide +kernel
theorem dX3_follow_89 : decode cX3_follow 89 = .ok (.istore_n 2, 1) := by decide +kernel
theorem dX3_follow_90 : decode cX3_follow 90 = .ok (.iinc 3 1, 3) := by decide +kernel
theorem dX3_follow_93 : decode cX3_follow 93 = .ok (.goto (-75), 3) := by decide +kernel
theorem dX3_follow_96 : decode cX3_follow 96 = .ok (.return_, 1) := by decide +kernel
set_option maxRecDepth 20000 in
theorem ggX4_init_X2_init : GoodIn wsX4_init wsX2_init := goodIn_r _ [21, 22, 2, 3, 23, 24, 25, 26, 27, 28, 29, 30, 31, 32, 17, 33, 34, 35, 36, 37, 70, 71, 72, 73, 74, 51, 52, 53] (by decide +kernel) (by decide +kernel)
set_option maxRecDepth 20000 in
theorem gX4_init_X2_init : GoodIn wsX4_init (wsX2_init) := ggX4_init_X2_init
set_option maxRecDepth 20000 in
theorem ggX4_init_X0_init : GoodIn wsX4_init wsX0_init := goodIn_r _ [39, 40, 2, 3, 41, 42, 17, 43, 60, 61, 62, 63] (by decide +kernel) (by decide +kernel)
set_option maxRecDepth 20000 in
theorem gX4_init_X0_init_n22 : GoodIn wsX4_init (wsX0_init) := ggX4_init_X0_init
set_option maxRecDepth 20000 in
theorem ggX4_init_X3_init : GoodIn wsX4_init wsX3_init := goodIn_r _ [45, 46, 2, 3, 17, 47, 48, 49, 50, 64, 65, 66, 67, 68, 69] (by decide +kernel) (by decide +kernel)
set_option maxRecDepth 20000 in
theorem gX4_init_X3_init_n29 : GoodIn wsX4_init (wsX3_init) := ggX4_init_X3_init
theorem dX4_init_0 : decode cX4_init 0 = .ok (.aload_n 0, 1) := by decide +kernel
theorem dX4_init_1 : decode cX4_init 1 = .ok (.invokespecial 1, 3) := by decide +kernel
theorem dX4_init_4 : decode cX4_init 4 = .ok (.aload_n 0, 1) := by decide +kernel
theorem dX4_init_5 : decode cX4_init 5 = .ok (.new 7, 3) := by decide +kernel
theorem dX4_init_8 : decode cX4_init 8 = .ok (.dup, 1) := by decide +kernel
theorem dX4_init_9 : decode cX4_init 9 = .ok (.invokespecial 9, 3) := by decide +kernel
theorem dX4_init_12 : decode cX4_init 12 = .ok (.putfield 10, 3) := by decide +kernel
theorem dX4_init_15 : decode cX4_init 15 = .ok (.aload_n 0, 1) := by decide +kernel
theorem dX4_init_16 : decode cX4_init 16 = .ok (.bipush 6, 2) := by decide +kernel
theorem dX4_init_18 : decode cX4_init 18 = .ok (.anewarray 7, 3) := by decide +kernel
theorem dX4_init_21 : decode cX4_init 21 = .ok (.putfield 16, 3) := by decide +kernel
theorem dX4_init_24 : decode cX4_init 24 = .ok (.iconst 0, 1) := by decide +kernel
theorem dX4_init_25 : decode cX4_init 25 = .ok (.istore_n 1, 1) := by decide +kernel
theorem dX4_init_26 : decode cX4_init 26 = .ok (.iload_n 1, 1) := by decide +kernel
theorem dX4_init_27 : decode cX4_init 27 = .ok (.aload_n 0, 1) := by decide +kernel
theorem dX4_init_28 : decode cX4_init 28 = .ok (.getfield 16, 3) := by decide +kernel
theorem dX4_init_31 : decode cX4_init 31 = .ok (.arraylength, 1) := by decide +kernel
theorem dX4_init_32 : decode cX4_init 32 = .ok (.if_icmp .ge 22, 3) := by decide +kernel
theorem dX4_init_35 : decode cX4_init 35 = .ok (.aload_n 0, 1) := by decide +kernel
theorem dX4_init_36 : decode cX4_init 36 = .ok (.getfield 16, 3) := by decide +kernel
theorem dX4_init_39 : decode cX4_init 39 = .ok (.iload_n 1, 1) := by decide +kernel
theorem dX4_init_40 : decode cX4_init 40 = .ok (.new 7, 3) := by decide +kernel
theorem dX4_init_43 : decode cX4_init 43 = .ok (.dup, 1) := by decide +kernel
theorem dX4_init_44 : decode cX4_init 44 = .ok (.invokespecial 9, 3) := by decide +kernel
theorem dX4_init_47 : decode cX4_init 47 = .ok (.aastore, 1) := by decide +kernel
theorem dX4_init_48 : decode cX4_init 48 = .ok (.iinc 1 1, 3) := by decide +kernel
theorem dX4_init_51 : decode cX4_init 51 = .ok (.goto (-25), 3) := by decide +kernel
theorem dX4_init_54 : decode cX4_init 54 = .ok (.aload_n 0, 1) := by decide +kernel
theorem dX4_init_55 : decode cX4_init 55 = .ok (.new 20, 3) := by decide +kernel
theorem dX4_init_58 : decode cX4_init 58 = .ok (.dup, 1) := by decide +kernel
theorem dX4_init_59 : decode cX4_init 59 = .ok (.invokespecial 22, 3) := by decide +kernel
theorem dX4_init_62 : decode cX4_init 62 = .ok (.putfield 23, 3) := by decide +kernel
theorem dX4_init_65 : decode cX4_init 65 = .ok (.aload_n 0, 1) := by decide +kernel
theorem dX4_init_66 : decode cX4_init 66 = .ok (.new 27, 3) := by decide +kernel
theorem dX4_init_69 : decode cX4_init 69 = .ok (.dup, 1) := by decide +kernel
theorem dX4_init_70 : decode cX4_init 70 = .ok (.invokespecial 29, 3) := by decide +kernel
theorem dX4_init_73 : decode cX4_init 73 = .ok (.putfield 30, 3) := by decide +kernel
theorem dX4_init_76 : decode cX4_init 76 = .ok (.aload_n 0, 1) := by decide +kernel
theorem dX4_init_77 : decode cX4_init 77 = .ok (.sipush 200, 3) := by decide +kernel
theorem dX4_init_80 : decode cX4_init 80 = .ok (.newarray .int, 2) := by decide +kernel
theorem dX4_init_82 : decode cX4_init 82 = .ok (.putfield 34, 3) := by decide +kernel
theorem dX4_init_85 : decode cX4_init 85 = .ok (.return_, 1) := by decide +kernel
set_option maxRecDepth 20000 in
theorem ggX4_set_X4_prepare : GoodIn wsX4_set wsX4_prepare := goodIn_r _ [7, 8, 9, 1, 10, 11, 12, 13, 14, 15, 16, 17, 18, 19, 20, 21, 22, 23, 24, 25, 26, 27, 28, 29, 30, 31, 46, 47, 48, 49, 50, 51, 52, 53, 54, 55, 56, 57, 58, 59] (by decide +kernel) (by decide +kernel)
set_option maxRecDepth 20000 in
theorem gX4_set_X4_prepare : GoodIn wsX4_set (wsV RX4 38 RX4 yX4_prepare wsX4_prepare) := goodIn_app (goodIn_of _ (by decide +kernel)) ggX4_set_X4_prepare
set_option maxRecDepth 20000 in
theorem ggX4_set_X1_putSetting : GoodIn wsX4_set wsX1_putSetting := goodIn_r _ [35, 36, 37, 31, 55, 56, 57, 58, 59] (by decide +kernel) (by decide +kernel)
set_option maxRecDepth 20000 in
theorem gX4_set_X1_putSetting : GoodIn wsX4_set (wsV RX4 45 RX1 yX1_putSetting wsX1_putSetting) := goodIn_app (goodIn_of _ (by decide +kernel)) ggX4_set_X1_putSetting
set_option maxRecDepth 20000 in
theorem ggX4_set_X4_finish : GoodIn wsX4_set wsX4_finish := goodIn_r _ [41, 9, 42, 43, 44, 6, 45, 8, 46, 47, 48, 49, 50, 51] (by decide +kernel) (by decide +kernel)
set_option maxRecDepth 20000 in
theorem gX4_set_X4_finish : GoodIn wsX4_set (wsV RX4 51 RX4 yX4_finish wsX4_finish) := goodIn_app (goodIn_of _ (by decide +kernel)) ggX4_set_X4_finish
theorem dX4_set_0 : decode cX4_set 0 = .ok (.aload_n 0, 1) := by decide +kernel
theorem dX4_set_1 : decode cX4_set 1 = .ok (.invokevirtual 38, 3) := by decide +kernel
theorem dX4_set_4 : decode cX4_set 4 = .ok (.aload_n 0, 1) := by decide +kernel
theorem dX4_set_5 : decode cX4_set 5 = .ok (.aload_n 0, 1) := by decide +kernel
theorem dX4_set_6 : decode cX4_set 6 = .ok (.getfield 10, 3) := by decide +kernel
theorem dX4_set_9 : decode cX4_set 9 = .ok (.getfield 41, 3) := by decide +kernel
theorem dX4_set_12 : decode cX4_set 12 = .ok (.iload_n 1, 1) := by decide +kernel
theorem dX4_set_13 : decode cX4_set 13 = .ok (.iload_n 2, 1) := by decide +kernel
theorem dX4_set_14 : decode cX4_set 14 = .ok (.invokevirtual 45, 3) := by decide +kernel
theorem dX4_set_17 : decode cX4_set 17 = .ok (.invokevirtual 51, 3) := by decide +kernel
theorem dX4_set_20 : decode cX4_set 20 = .ok (.ireturn, 1) := by decide +kernel
set_option maxRecDepth 20000 in
theorem ggX4_setPhosphor_X4_prepare : GoodIn wsX4_setPhosphor wsX4_prepare := goodIn_r _ [7, 8, 9, 1, 10, 11, 12, 13, 14, 15, 16, 17, 18, 19, 20, 21, 22, 23, 24, 25, 26, 27, 28, 29, 30, 31, 48, 49, 50, 51, 52, 53, 54, 55, 56, 57, 58, 59, 60, 61] (by decide +kernel) (by decide +kernel)
set_option maxRecDepth 20000 in
theorem gX4_setPhosphor_X4_prepare : GoodIn wsX4_setPhosphor (wsV RX4 38 RX4 yX4_prepare wsX4_prepare) := goodIn_app (goodIn_of _ (by decide +kernel)) ggX4_setPhosphor_X4_prepare
set_option maxRecDepth 20000 in
theorem ggX4_setPhosphor_X1_putPhosphor : GoodIn wsX4_setPhosphor wsX1_putPhosphor := goodIn_r _ [35, 23, 36, 6, 37, 38, 39, 57, 58, 59, 60, 61] (by decide +kernel) (by decide +kernel)
set_option maxRecDepth 20000 in
theorem gX4_setPhosphor_X1_putPhosphor : GoodIn wsX4_setPhosphor (wsV RX4 55 RX1 yX1_putPhosphor wsX1_putPhosphor) := goodIn_app (goodIn_of _ (by decide +kernel)) ggX4_setPhosphor_X1_putPhosphor
set_option maxRecDepth 20000 in
theorem ggX4_setPhosphor_X4_finish : GoodIn wsX4_setPhosphor wsX4_finish := goodIn_r _ [43, 9, 44, 45, 46, 6, 47, 8, 48, 49, 50, 51, 52, 53] (by decide +kernel) (by decide +kernel)
set_option maxRecDepth 20000 in
theorem gX4_setPhosphor_X4_finish : GoodIn wsX4_setPhosphor (wsV RX4 51 RX4 yX4_finish wsX4_finish) := goodIn_app (goodIn_of _ (by decide +kernel)) ggX4_setPhosphor_X4_finish
theorem dX4_setPhosphor_0 : decode cX4_setPhosphor 0 = .ok (.aload_n 0, 1) := by decide +kernel
theorem dX4_setPhosphor_1 : decode cX4_setPhosphor 1 = .ok (.invokevirtual 38, 3) := by decide +kernel
theorem dX4_setPhosphor_4 : decode cX4_setPhosphor 4 = .ok (.aload_n 0, 1) := by decide +kernel
theorem dX4_setPhosphor_5 : decode cX4_setPhosphor 5 = .ok (.aload_n 0, 1) := by decide +kernel
theorem dX4_setPhosphor_6 : decode cX4_setPhosphor 6 = .ok (.getfield 10, 3) := by decide +kernel
theorem dX4_setPhosphor_9 : decode cX4_setPhosphor 9 = .ok (.getfield 41, 3) := by decide +kernel
theorem dX4_setPhosphor_12 : decode cX4_setPhosphor 12 = .ok (.iload_n 1, 1) := by decide +kernel
theorem dX4_setPhosphor_13 : decode cX4_setPhosphor 13 = .ok (.iload_n 2, 1) := by decide +kernel
theorem dX4_setPhosphor_14 : decode cX4_setPhosphor 14 = .ok (.invokevirtual 55, 3) := by decide +kernel
theorem dX4_setPhosphor_17 : decode cX4_setPhosphor 17 = .ok (.invokevirtual 51, 3) := by decide +kernel
theorem dX4_setPhosphor_20 : decode cX4_setPhosphor 20 = .ok (.ireturn, 1) := by decide +kernel
set_option maxRecDepth 20000 in
theorem ggX4_light_X4_prepare : GoodIn wsX4_light wsX4_prepare := goodIn_r _ [7, 8, 9, 1, 10, 11, 12, 13, 14, 15, 16, 17, 18, 19, 20, 21, 22, 23, 24, 25, 26, 27, 28, 29, 30, 31, 50, 51, 52, 53, 54, 55, 56, 57, 58, 59, 60, 61, 62, 63] (by decide +kernel) (by decide +kernel)
set_option maxRecDepth 20000 in
theorem gX4_light_X4_prepare : GoodIn wsX4_light (wsV RX4 38 RX4 yX4_prepare wsX4_prepare) := goodIn_app (goodIn_of _ (by decide +kernel)) ggX4_light_X4_prepare
set_option maxRecDepth 20000 in
theorem ggX4_light_X1_addSpot : GoodIn wsX4_light wsX1_addSpot := goodIn_r _ [35, 29, 28, 36, 6, 37, 38, 39, 40, 21, 41, 59, 60, 61, 62, 63] (by decide +kernel) (by decide +kernel)
set_option maxRecDepth 20000 in
theorem gX4_light_X1_addSpot : GoodIn wsX4_light (wsV RX4 58 RX1 yX1_addSpot wsX1_addSpot) := goodIn_app (goodIn_of _ (by decide +kernel)) ggX4_light_X1_addSpot
set_option maxRecDepth 20000 in
theorem ggX4_light_X4_finish : GoodIn wsX4_light wsX4_finish := goodIn_r _ [45, 9, 46, 47, 48, 6, 49, 8, 50, 51, 52, 53, 54, 55] (by decide +kernel) (by decide +kernel)
set_option maxRecDepth 20000 in
theorem gX4_light_X4_finish : GoodIn wsX4_light (wsV RX4 51 RX4 yX4_finish wsX4_finish) := goodIn_app (goodIn_of _ (by decide +kernel)) ggX4_light_X4_finish
theorem dX4_light_0 : decode cX4_light 0 = .ok (.aload_n 0, 1) := by decide +kernel
theorem dX4_light_1 : decode cX4_light 1 = .ok (.invokevirtual 38, 3) := by decide +kernel
theorem dX4_light_4 : decode cX4_light 4 = .ok (.aload_n 0, 1) := by decide +kernel
theorem dX4_light_5 : decode cX4_light 5 = .ok (.aload_n 0, 1) := by decide +kernel
theorem dX4_light_6 : decode cX4_light 6 = .ok (.getfield 10, 3) := by decide +kernel
theorem dX4_light_9 : decode cX4_light 9 = .ok (.getfield 41, 3) := by decide +kernel
theorem dX4_light_12 : decode cX4_light 12 = .ok (.iload_n 1, 1) := by decide +kernel
theorem dX4_light_13 : decode cX4_light 13 = .ok (.invokevirtual 58, 3) := by decide +kernel
theorem dX4_light_16 : decode cX4_light 16 = .ok (.invokevirtual 51, 3) := by decide +kernel
theorem dX4_light_19 : decode cX4_light 19 = .ok (.ireturn, 1) := by decide +kernel
set_option maxRecDepth 20000 in
theorem ggX4_darken_X4_prepare : GoodIn wsX4_darken wsX4_prepare := goodIn_r _ [7, 8, 9, 1, 10, 11, 12, 13, 14, 15, 16, 17, 18, 19, 20, 21, 22, 23, 24, 25, 26, 27, 28, 29, 30, 31, 50, 51, 52, 53, 54, 55, 56, 57, 58, 59, 60, 61, 62, 63] (by decide +kernel) (by decide +kernel)
set_option maxRecDepth 20000 in
theorem gX4_darken_X4_prepare : GoodIn wsX4_darken (wsV RX4 38 RX4 yX4_prepare wsX4_prepare) := goodIn_app (goodIn_of _ (by decide +kernel)) ggX4_darken_X4_prepare
set_option maxRecDepth 20000 in
theorem ggX4_darken_X1_removeSpot : GoodIn wsX4_darken wsX1_removeSpot := goodIn_r _ [35, 29, 28, 36, 6, 37, 38, 39, 40, 21, 41, 59, 60, 61, 62, 63] (by decide +kernel) (by decide +kernel)
set_option maxRecDepth 20000 in
theorem gX4_darken_X1_removeSpot : GoodIn wsX4_darken (wsV RX4 61 RX1 yX1_removeSpot wsX1_removeSpot) := goodIn_app (goodIn_of _ (by decide +kernel)) ggX4_darken_X1_removeSpot
set_option maxRecDepth 20000 in
theorem ggX4_darken_X4_finish : GoodIn wsX4_darken wsX4_finish := goodIn_r _ [45, 9, 46, 47, 48, 6, 49, 8, 50, 51, 52, 53, 54, 55] (by decide +kernel) (by decide +kernel)
set_option maxRecDepth 20000 in
theorem gX4_darken_X4_finish : GoodIn wsX4_darken (wsV RX4 51 RX4 yX4_finish wsX4_finish) := goodIn_app (goodIn_of _ (by decide +kernel)) ggX4_darken_X4_finish
theorem dX4_darken_0 : decode cX4_darken 0 = .ok (.aload_n 0, 1) := by decide +kernel
theorem dX4_darken_1 : decode cX4_darken 1 = .ok (.invokevirtual 38, 3) := by decide +kernel
theorem dX4_darken_4 : decode cX4_darken 4 = .ok (.aload_n 0, 1) := by decide +kernel
theorem dX4_darken_5 : decode cX4_darken 5 = .ok (.aload_n 0, 1) := by decide +kernel
theorem dX4_darken_6 : decode cX4_darken 6 = .ok (.getfield 10, 3) := by decide +kernel
theorem dX4_darken_9 : decode cX4_darken 9 = .ok (.getfield 41, 3) := by decide +kernel
theorem dX4_darken_12 : decode cX4_darken 12 = .ok (.iload_n 1, 1) := by decide +kernel
theorem dX4_darken_13 : decode cX4_darken 13 = .ok (.invokevirtual 61, 3) := by decide +kernel
theorem dX4_darken_16 : decode cX4_darken 16 = .ok (.invokevirtual 51, 3) := by decide +kernel
theorem dX4_darken_19 : decode cX4_darken 19 = .ok (.ireturn, 1) := by decide +kernel
set_option maxRecDepth 20000 in
theorem ggX4_exchange_X4_prepare : GoodIn wsX4_exchange wsX4_prepare := goodIn_r _ [7, 8, 9, 1, 10, 11, 12, 13, 14, 15, 16, 17, 18, 19, 20, 21, 22, 23, 24, 25, 26, 27, 28, 29, 30, 31, 62, 63, 64, 65, 66, 67, 68, 69, 70, 71, 72, 73, 74, 75] (by decide +kernel) (by decide +kernel)
set_option maxRecDepth 20000 in
theorem gX4_exchange_X4_prepare : GoodIn wsX4_exchange (wsV RX4 38 RX4 yX4_prepare wsX4_prepare) := goodIn_app (goodIn_of _ (by decide +kernel)) ggX4_exchange_X4_prepare
set_option maxRecDepth 20000 in
theorem ggX4_exchange_X1_swapPositions : GoodIn wsX4_exchange wsX1_swapPositions := goodIn_r _ [35, 29, 36, 37, 38, 21, 39, 28, 40, 41, 42, 43, 31, 44, 45, 46, 47, 48, 6, 49, 50, 51, 52, 53, 71, 72, 73, 74, 75] (by decide +kernel) (by decide +kernel)
set_option maxRecDepth 20000 in
theorem gX4_exchange_X1_swapPositions : GoodIn wsX4_exchange (wsV RX4 64 RX1 yX1_swapPositions wsX1_swapPositions) := goodIn_app (goodIn_of _ (by decide +kernel)) ggX4_exchange_X1_swapPositions
set_option maxRecDepth 20000 in
theorem ggX4_exchange_X4_finish : GoodIn wsX4_exchange wsX4_finish := goodIn_r _ [57, 9, 58, 59, 60, 6, 61, 8, 62, 63, 64, 65, 66, 67] (by decide +kernel) (by decide +kernel)
set_option maxRecDepth 20000 in
theorem gX4_exchange_X4_finish : GoodIn wsX4_exchange (wsV RX4 51 RX4 yX4_finish wsX4_finish) := goodIn_app (goodIn_of _ (by decide +kernel)) ggX4_exchange_X4_finish
theorem dX4_exchange_0 : decode cX4_exchange 0 = .ok (.aload_n 0, 1) := by decide +kernel
theorem dX4_exchange_1 : decode cX4_exchange 1 = .ok (.invokevirtual 38, 3) := by decide +kernel
theorem dX4_exchange_4 : decode cX4_exchange 4 = .ok (.aload_n 0, 1) := by decide +kernel
theorem dX4_exchange_5 : decode cX4_exchange 5 = .ok (.aload_n 0, 1) := by decide +kernel
theorem dX4_exchange_6 : decode cX4_exchange 6 = .ok (.getfield 10, 3) := by decide +kernel
theorem dX4_exchange_9 : decode cX4_exchange 9 = .ok (.getfield 41, 3) := by decide +kernel
theorem dX4_exchange_12 : decode cX4_exchange 12 = .ok (.iload_n 1, 1) := by decide +kernel
theorem dX4_exchange_13 : decode cX4_exchange 13 = .ok (.iload_n 2, 1) := by decide +kernel
theorem dX4_exchange_14 : decode cX4_exchange 14 = .ok (.invokevirtual 64, 3) := by decide +kernel
theorem dX4_exchange_17 : decode cX4_exchange 17 = .ok (.invokevirtual 51, 3) := by decide +kernel
theorem dX4_exchange_20 : decode cX4_exchange 20 = .ok (.ireturn, 1) := by decide +kernel
set_option maxRecDepth 20000 in
theorem ggX4_sort_X4_prepare : GoodIn wsX4_sort wsX4_prepare := goodIn_r _ [7, 8, 9, 1, 10, 11, 12, 13, 14, 15, 16, 17, 18, 19, 20, 21, 22, 23, 24, 25, 26, 27, 28, 29, 30, 31, 76, 77, 78, 79, 80, 81, 82, 83, 84, 85, 86, 87, 88, 89] (by decide +kernel) (by decide +kernel)
set_option maxRecDepth 20000 in
theorem gX4_sort_X4_prepare : GoodIn wsX4_sort (wsV RX4 38 RX4 yX4_prepare wsX4_prepare) := goodIn_app (goodIn_of _ (by decide +kernel)) ggX4_sort_X4_prepare
set_option maxRecDepth 20000 in
theorem ggX4_sort_X1_arrange : GoodIn wsX4_sort wsX1_arrange := goodIn_r _ [35, 29, 28, 36, 37, 38, 21, 39, 30, 23, 40, 6, 41, 42, 43, 44, 45, 46, 47, 48, 49, 50, 51, 52, 53, 54, 55, 56, 57, 58, 59, 60, 61, 62, 63, 31, 64, 65, 66, 67, 85, 86, 87, 88, 89] (by decide +kernel) (by decide +kernel)
set_option maxRecDepth 20000 in
theorem gX4_sort_X1_arrange : GoodIn wsX4_sort (wsV RX4 67 RX1 yX1_arrange wsX1_arrange) := goodIn_app (goodIn_of _ (by decide +kernel)) ggX4_sort_X1_arrange
set_option maxRecDepth 20000 in
theorem ggX4_sort_X4_finish : GoodIn wsX4_sort wsX4_finish := goodIn_r _ [71, 9, 72, 73, 74, 6, 75, 8, 76, 77, 78, 79, 80, 81] (by decide +kernel) (by decide +kernel)
set_option maxRecDepth 20000 in
theorem gX4_sort_X4_finish : GoodIn wsX4_sort (wsV RX4 51 RX4 yX4_finish wsX4_finish) := goodIn_app (goodIn_of _ (by decide +kernel)) ggX4_sort_X4_finish
theorem dX4_sort_0 : decode cX4_sort 0 = .ok (.aload_n 0, 1) := by decide +kernel
theorem dX4_sort_1 : decode cX4_sort 1 = .ok (.invokevirtual 38, 3) := by decide +kernel
theorem dX4_sort_4 : decode cX4_sort 4 = .ok (.aload_n 0, 1) := by decide +kernel
theorem dX4_sort_5 : decode cX4_sort 5 = .ok (.aload_n 0, 1) := by decide +kernel
theorem dX4_sort_6 : decode cX4_sort 6 = .ok (.getfield 10, 3) := by decide +kernel
theorem dX4_sort_9 : decode cX4_sort 9 = .ok (.getfield 41, 3) := by decide +kernel
theorem dX4_sort_12 : decode cX4_sort 12 = .ok (.iload_n 1, 1) := by decide +kernel
theorem dX4_sort_13 : decode cX4_sort 13 = .ok (.invokevirtual 67, 3) := by decide +kernel
theorem dX4_sort_16 : decode cX4_sort 16 = .ok (.invokevirtual 51, 3) := by decide +kernel
theorem dX4_sort_19 : decode cX4_sort 19 = .ok (.ireturn, 1) := by decide +kernel
set_option maxRecDepth 20000 in
theorem ggX4_draw_X4_prepare : GoodIn wsX4_draw wsX4_prepare := goodIn_r _ [7, 8, 9, 1, 10, 11, 12, 13, 14, 15, 16, 17, 18, 19, 20, 21, 22, 23, 24, 25, 26, 27, 28, 29, 30, 31, 54, 55, 56, 57, 58, 59, 60, 61, 62, 63, 64, 65, 66, 67] (by decide +kernel) (by decide +kernel)
set_option maxRecDepth 20000 in
theorem gX4_draw_X4_prepare : GoodIn wsX4_draw (wsV RX4 38 RX4 yX4_prepare wsX4_prepare) := goodIn_app (goodIn_of _ (by decide +kernel)) ggX4_draw_X4_prepare
set_option maxRecDepth 20000 in
theorem ggX4_draw_X1_paint : GoodIn wsX4_draw wsX1_paint := goodIn_r _ [35, 30, 36, 37, 6, 38, 39, 40, 41, 42, 43, 44, 45, 63, 64, 65, 66, 67] (by decide +kernel) (by decide +kernel)
set_option maxRecDepth 20000 in
theorem gX4_draw_X1_paint : GoodIn wsX4_draw (wsV RX4 70 RX1 yX1_paint wsX1_paint) := goodIn_app (goodIn_of _ (by decide +kernel)) ggX4_draw_X1_paint
set_option maxRecDepth 20000 in
theorem ggX4_draw_X4_finish : GoodIn wsX4_draw wsX4_finish := goodIn_r _ [49, 9, 50, 51, 52, 6, 53, 8, 54, 55, 56, 57, 58, 59] (by decide +kernel) (by decide +kernel)
set_option maxRecDepth 20000 in
theorem gX4_draw_X4_finish : GoodIn wsX4_draw (wsV RX4 51 RX4 yX4_finish wsX4_finish) := goodIn_app (goodIn_of _ (by decide +kernel)) ggX4_draw_X4_finish
theorem dX4_draw_0 : decode cX4_draw 0 = .ok (.aload_n 0, 1) := by decide +kernel
theorem dX4_draw_1 : decode cX4_draw 1 = .ok (.invokevirtual 38, 3) := by decide +kernel
theorem dX4_draw_4 : decode cX4_draw 4 = .ok (.aload_n 0, 1) := by decide +kernel
theorem dX4_draw_5 : decode cX4_draw 5 = .ok (.aload_n 0, 1) := by decide +kernel
theorem dX4_draw_6 : decode cX4_draw 6 = .ok (.getfield 10, 3) := by decide +kernel
theorem dX4_draw_9 : decode cX4_draw 9 = .ok (.getfield 41, 3) := by decide +kernel
theorem dX4_draw_12 : decode cX4_draw 12 = .ok (.iload_n 1, 1) := by decide +kernel
theorem dX4_draw_13 : decode cX4_draw 13 = .ok (.iload_n 2, 1) := by decide +kernel
theorem dX4_draw_14 : decode cX4_draw 14 = .ok (.iload_n 3, 1) := by decide +kernel
theorem dX4_draw_15 : decode cX4_draw 15 = .ok (.invokevirtual 70, 3) := by decide +kernel
theorem dX4_draw_18 : decode cX4_draw 18 = .ok (.invokevirtual 51, 3) := by decide +kernel
theorem dX4_draw_21 : decode cX4_draw 21 = .ok (.ireturn, 1) := by decide +kernel
set_option maxRecDepth 20000 in
theorem ggX4_take_X4_prepare : GoodIn wsX4_take wsX4_prepare := goodIn_r _ [6, 7, 8, 1, 9, 10, 11, 12, 13, 14, 15, 16, 17, 18, 19, 20, 21, 22, 23, 24, 25, 26, 27, 28, 29, 30, 47, 48, 49, 50, 51, 52, 53, 54, 55, 56, 57, 58, 59, 60] (by decide +kernel) (by decide +kernel)
set_option maxRecDepth 20000 in
theorem gX4_take_X4_prepare : GoodIn wsX4_take (wsV RX4 38 RX4 yX4_prepare wsX4_prepare) := goodIn_app (goodIn_of _ (by decide +kernel)) ggX4_take_X4_prepare
set_option maxRecDepth 20000 in
theorem ggX4_take_X2_keepSnapshot : GoodIn wsX4_take wsX2_keepSnapshot := goodIn_r _ [34, 15, 14, 16, 35, 36, 37, 12, 38, 17, 18, 19, 20, 21, 22, 23, 24, 25, 26, 27, 28, 29, 30, 53, 54, 55, 56, 57, 58, 59, 60] (by decide +kernel) (by decide +kernel)
set_option maxRecDepth 20000 in
theorem gX4_take_X2_keepSnapshot : GoodIn wsX4_take (wsV RX4 74 RX2 yX2_keepSnapshot wsX2_keepSnapshot) := goodIn_app (goodIn_of _ (by decide +kernel)) ggX4_take_X2_keepSnapshot
set_option maxRecDepth 20000 in
theorem ggX4_take_X4_finish : GoodIn wsX4_take wsX4_finish := goodIn_r _ [42, 8, 43, 44, 45, 5, 46, 7, 47, 48, 49, 50, 51, 52] (by decide +kernel) (by decide +kernel)
set_option maxRecDepth 20000 in
theorem gX4_take_X4_finish : GoodIn wsX4_take (wsV RX4 51 RX4 yX4_finish wsX4_finish) := goodIn_app (goodIn_of _ (by decide +kernel)) ggX4_take_X4_finish
theorem dX4_take_0 : decode cX4_take 0 = .ok (.aload_n 0, 1) := by decide +kernel
theorem dX4_take_1 : decode cX4_take 1 = .ok (.invokevirtual 38, 3) := by decide +kernel
theorem dX4_take_4 : decode cX4_take 4 = .ok (.aload_n 0, 1) := by decide +kernel
theorem dX4_take_5 : decode cX4_take 5 = .ok (.aload_n 0, 1) := by decide +kernel
theorem dX4_take_6 : decode cX4_take 6 = .ok (.getfield 10, 3) := by decide +kernel
theorem dX4_take_9 : decode cX4_take 9 = .ok (.iload_n 1, 1) := by decide +kernel
theorem dX4_take_10 : decode cX4_take 10 = .ok (.invokevirtual 74, 3) := by decide +kernel
theorem dX4_take_13 : decode cX4_take 13 = .ok (.invokevirtual 51, 3) := by decide +kernel
theorem dX4_take_16 : decode cX4_take 16 = .ok (.ireturn, 1) := by decide +kernel
set_option maxRecDepth 20000 in
theorem ggX4_restore_X4_prepare : GoodIn wsX4_restore wsX4_prepare := goodIn_r _ [6, 7, 8, 1, 9, 10, 11, 12, 13, 14, 15, 16, 17, 18, 19, 20, 21, 22, 23, 24, 25, 26, 27, 28, 29, 30, 47, 48, 49, 50, 51, 52, 53, 54, 55, 56, 57, 58, 59, 60] (by decide +kernel) (by decide +kernel)
set_option maxRecDepth 20000 in
theorem gX4_restore_X4_prepare : GoodIn wsX4_restore (wsV RX4 38 RX4 yX4_prepare wsX4_prepare) := goodIn_app (goodIn_of _ (by decide +kernel)) ggX4_restore_X4_prepare
set_option maxRecDepth 20000 in
theorem ggX4_restore_X2_showSnapshot : GoodIn wsX4_restore wsX2_showSnapshot := goodIn_r _ [34, 16, 14, 15, 35, 36, 37, 12, 38, 17, 18, 19, 20, 21, 22, 23, 24, 25, 26, 27, 28, 29, 30, 53, 54, 55, 56, 57, 58, 59, 60] (by decide +kernel) (by decide +kernel)
set_option maxRecDepth 20000 in
theorem gX4_restore_X2_showSnapshot : GoodIn wsX4_restore (wsV RX4 77 RX2 yX2_showSnapshot wsX2_showSnapshot) := goodIn_app (goodIn_of _ (by decide +kernel)) ggX4_restore_X2_showSnapshot
set_option maxRecDepth 20000 in
theorem ggX4_restore_X4_finish : GoodIn wsX4_restore wsX4_finish := goodIn_r _ [42, 8, 43, 44, 45, 5, 46, 7, 47, 48, 49, 50, 51, 52] (by decide +kernel) (by decide +kernel)
set_option maxRecDepth 20000 in
theorem gX4_restore_X4_finish : GoodIn wsX4_restore (wsV RX4 51 RX4 yX4_finish wsX4_finish) := goodIn_app (goodIn_of _ (by decide +kernel)) ggX4_restore_X4_finish
theorem dX4_restore_0 : decode cX4_restore 0 = .ok (.aload_n 0, 1) := by decide +kernel
theorem dX4_restore_1 : decode cX4_restore 1 = .ok (.invokevirtual 38, 3) := by decide +kernel
theorem dX4_restore_4 : decode cX4_restore 4 = .ok (.aload_n 0, 1) := by decide +kernel
theorem dX4_restore_5 : decode cX4_restore 5 = .ok (.aload_n 0, 1) := by decide +kernel
theorem dX4_restore_6 : decode cX4_restore 6 = .ok (.getfield 10, 3) := by decide +kernel
theorem dX4_restore_9 : decode cX4_restore 9 = .ok (.iload_n 1, 1) := by decide +kernel
theorem dX4_restore_10 : decode cX4_restore 10 = .ok (.invokevirtual 77, 3) := by decide +kernel
theorem dX4_restore_13 : decode cX4_restore 13 = .ok (.invokevirtual 51, 3) := by decide +kernel
theorem dX4_restore_16 : decode cX4_restore 16 = .ok (.ireturn, 1) := by decide +kernel
set_option maxRecDepth 20000 in
theorem ggX4_undo_X2_copyFrom : GoodIn wsX4_undo wsX2_copyFrom := goodIn_r _ [8, 9, 10, 11, 12, 13, 14, 15, 16, 17, 18, 19, 20, 21, 22, 23, 24, 25, 32, 33, 34, 35, 36, 37, 38, 39] (by decide +kernel) (by decide +kernel)
set_option maxRecDepth 20000 in
theorem gX4_undo_X2_copyFrom : GoodIn wsX4_undo (wsV RX4 84 RX2 yX2_copyFrom wsX2_copyFrom) := goodIn_app (goodIn_of _ (by decide +kernel)) ggX4_undo_X2_copyFrom
theorem dX4_undo_0 : decode cX4_undo 0 = .ok (.aload_n 0, 1) := by decide +kernel
theorem dX4_undo_1 : decode cX4_undo 1 = .ok (.getfield 80, 3) := by decide +kernel
theorem dX4_undo_4 : decode cX4_undo 4 = .ok (.iconst 1, 1) := by decide +kernel
theorem dX4_undo_5 : decode cX4_undo 5 = .ok (.if_icmp .ge 6, 3) := by decide +kernel
theorem dX4_undo_8 : decode cX4_undo 8 = .ok (.bipush (-2), 2) := by decide +kernel
theorem dX4_undo_10 : decode cX4_undo 10 = .ok (.ireturn, 1) := by decide +kernel
theorem dX4_undo_11 : decode cX4_undo 11 = .ok (.aload_n 0, 1) := by decide +kernel
theorem dX4_undo_12 : decode cX4_undo 12 = .ok (.dup, 1) := by decide +kernel
theorem dX4_undo_13 : decode cX4_undo 13 = .ok (.getfield 80, 3) := by decide +kernel
theorem dX4_undo_16 : decode cX4_undo 16 = .ok (.iconst 1, 1) := by decide +kernel
theorem dX4_undo_17 : decode cX4_undo 17 = .ok (.isub, 1) := by decide +kernel
theorem dX4_undo_18 : decode cX4_undo 18 = .ok (.putfield 80, 3) := by decide +kernel
theorem dX4_undo_21 : decode cX4_undo 21 = .ok (.aload_n 0, 1) := by decide +kernel
theorem dX4_undo_22 : decode cX4_undo 22 = .ok (.getfield 10, 3) := by decide +kernel
theorem dX4_undo_25 : decode cX4_undo 25 = .ok (.aload_n 0, 1) := by decide +kernel
theorem dX4_undo_26 : decode cX4_undo 26 = .ok (.getfield 16, 3) := by decide +kernel
theorem dX4_undo_29 : decode cX4_undo 29 = .ok (.aload_n 0, 1) := by decide +kernel
theorem dX4_undo_30 : decode cX4_undo 30 = .ok (.getfield 80, 3) := by decide +kernel
theorem dX4_undo_33 : decode cX4_undo 33 = .ok (.aaload, 1) := by decide +kernel
theorem dX4_undo_34 : decode cX4_undo 34 = .ok (.invokevirtual 84, 3) := by decide +kernel
theorem dX4_undo_37 : decode cX4_undo 37 = .ok (.aload_n 0, 1) := by decide +kernel
theorem dX4_undo_38 : decode cX4_undo 38 = .ok (.getfield 80, 3) := by decide +kernel
theorem dX4_undo_41 : decode cX4_undo 41 = .ok (.ireturn, 1) := by decide +kernel
set_option maxRecDepth 20000 in
theorem ggX4_count_X1_litSize : GoodIn wsX4_count wsX1_litSize := goodIn_r _ [12, 13, 14, 15, 16, 17, 11, 18, 19, 20, 21, 22, 23, 24, 25, 26, 114, 115, 116, 117, 118] (by decide +kernel) (by decide +kernel)
set_option maxRecDepth 20000 in
theorem gX4_count_X1_litSize : GoodIn wsX4_count (wsV RX4 105 RX1 yX1_litSize wsX1_litSize) := goodIn_app (goodIn_of _ (by decide +kernel)) ggX4_count_X1_litSize
set_option maxRecDepth 20000 in
theorem ggX4_count_J13_bitCount_95d88 : GoodIn wsX4_count wsJ13_bitCount_95d88 := goodIn_r _ [30, 31, 32, 33] (by decide +kernel) (by decide +kernel)
set_option maxRecDepth 20000 in
theorem gX4_count_J13_bitCount_95d88 : GoodIn wsX4_count (va_wsS RX4 112 yJ13_bitCount_95d88 wsJ13_bitCount_95d88) := goodIn_app (goodIn_of _ (by decide +kernel)) ggX4_count_J13_bitCount_95d88
set_option maxRecDepth 20000 in
theorem ggX4_count_X1_seenByEye : GoodIn wsX4_count wsX1_seenByEye := goodIn_r _ [37, 14, 38, 39, 40, 11, 41, 13, 19, 42, 43, 44, 45, 46, 47, 48, 49, 50, 51, 52, 53, 15, 16, 17, 18, 20, 21, 22, 23, 24, 25, 26, 54, 55, 56, 57, 58, 59, 60, 61, 62, 63, 64, 65, 66, 67, 68, 69, 70, 114, 115, 116, 117, 118] (by decide +kernel) (by decide +kernel)
set_option maxRecDepth 20000 in
theorem gX4_count_X1_seenByEye : GoodIn wsX4_count (wsV RX4 118 RX1 yX1_seenByEye wsX1_seenByEye) := goodIn_app (goodIn_of _ (by decide +kernel)) ggX4_count_X1_seenByEye
set_option maxRecDepth 20000 in
theorem ggX4_count_X1_seenByShutter : GoodIn wsX4_count wsX1_seenByShutter := goodIn_r _ [74, 14, 75, 76, 77, 11, 78, 38, 39, 40, 41, 13, 19, 42, 43, 44, 45, 46, 47, 48, 49, 50, 51, 52, 53, 15, 16, 17, 18, 20, 21, 22, 23, 24, 25, 26, 54, 55, 56, 57, 58, 59, 60, 61, 62, 63, 64, 65, 66, 67, 68, 69, 70, 114, 115, 116, 117, 118] (by decide +kernel) (by decide +kernel)
end
section
set_option maxRecDepth 20000 in
theorem gX4_count_X1_seenByShutter : GoodIn wsX4_count (wsV RX4 122 RX1 yX1_seenByShutter wsX1_seenByShutter) := goodIn_app (goodIn_of _ (by decide +kernel)) ggX4_count_X1_seenByShutter
set_option maxRecDepth 20000 in
theorem ggX4_count_X1_wrong : GoodIn wsX4_count wsX1_wrong := goodIn_r _ [82, 83, 114, 115, 116, 117, 118] (by decide +kernel) (by decide +kernel)
set_option maxRecDepth 20000 in
theorem gX4_count_X1_wrong : GoodIn wsX4_count (wsV RX4 126 RX1 yX1_wrong wsX1_wrong) := goodIn_app (goodIn_of _ (by decide +kernel)) ggX4_count_X1_wrong
set_option maxRecDepth 20000 in
theorem ggX4_count_X1_sumOfWays : GoodIn wsX4_count wsX1_sumOfWays := goodIn_r _ [87, 13, 19, 20, 21, 22, 23, 24, 25, 26, 114, 115, 116, 117, 118] (by decide +kernel) (by decide +kernel)
set_option maxRecDepth 20000 in
theorem gX4_count_X1_sumOfWays : GoodIn wsX4_count (wsV RX4 130 RX1 yX1_sumOfWays wsX1_sumOfWays) := goodIn_app (goodIn_of _ (by decide +kernel)) ggX4_count_X1_sumOfWays
set_option maxRecDepth 20000 in
theorem ggX4_count_X1_arrival : GoodIn wsX4_count wsX1_arrival := goodIn_r _ [18, 13, 19, 14, 20, 21, 22, 23, 24, 25, 26, 114, 115, 116, 117, 118] (by decide +kernel) (by decide +kernel)
set_option maxRecDepth 20000 in
theorem gX4_count_X1_arrival : GoodIn wsX4_count (wsV RX4 133 RX1 yX1_arrival wsX1_arrival) := goodIn_app (goodIn_of _ (by decide +kernel)) ggX4_count_X1_arrival
set_option maxRecDepth 20000 in
theorem ggX4_count_X2_snapshots : GoodIn wsX4_count wsX2_snapshots := goodIn_r _ [93, 94, 111, 112, 113] (by decide +kernel) (by decide +kernel)
set_option maxRecDepth 20000 in
theorem gX4_count_X2_snapshots : GoodIn wsX4_count (wsV RX4 136 RX2 yX2_snapshots wsX2_snapshots) := goodIn_app (goodIn_of _ (by decide +kernel)) ggX4_count_X2_snapshots
set_option maxRecDepth 20000 in
theorem ggX4_count_X0_size : GoodIn wsX4_count wsX0_size := goodIn_r _ [99, 100, 119, 120, 121, 122] (by decide +kernel) (by decide +kernel)
set_option maxRecDepth 20000 in
theorem gX4_count_X0_size : GoodIn wsX4_count (wsV RX4 139 RX0 yX0_size wsX0_size) := goodIn_app (goodIn_of _ (by decide +kernel)) ggX4_count_X0_size
set_option maxRecDepth 20000 in
theorem ggX4_count_X4_settingCount : GoodIn wsX4_count wsX4_settingCount := goodIn_r _ [104, 1, 2, 3, 105, 106, 107, 108, 109, 110, 111, 112, 113, 114, 115, 116, 117, 118] (by decide +kernel) (by decide +kernel)
set_option maxRecDepth 20000 in
theorem gX4_count_X4_settingCount : GoodIn wsX4_count (wsV RX4 141 RX4 yX4_settingCount wsX4_settingCount) := goodIn_app (goodIn_of _ (by decide +kernel)) ggX4_count_X4_settingCount
theorem dX4_count_0 : decode cX4_count 0 = .ok (.aload_n 0, 1) := by decide +kernel
theorem dX4_count_1 : decode cX4_count 1 = .ok (.getfield 10, 3) := by decide +kernel
theorem dX4_count_4 : decode cX4_count 4 = .ok (.getfield 41, 3) := by decide +kernel
theorem dX4_count_7 : decode cX4_count 7 = .ok (.astore_n 2, 1) := by decide +kernel
theorem dX4_count_8 : decode cX4_count 8 = .ok (.aload_n 2, 1) := by decide +kernel
theorem dX4_count_9 : decode cX4_count 9 = .ok (.getfield 99, 3) := by decide +kernel
theorem dX4_count_12 : decode cX4_count 12 = .ok (.iconst 4, 1) := by decide +kernel
theorem dX4_count_13 : decode cX4_count 13 = .ok (.iaload, 1) := by decide +kernel
theorem dX4_count_14 : decode cX4_count 14 = .ok (.istore_n 3, 1) := by decide +kernel
theorem dX4_count_15 : decode cX4_count 15 = .ok (.iload_n 1, 1) := by decide +kernel
theorem dX4_count_16 : decode cX4_count 16 = .ok (.tableswitch 191 0 12 #[68, 73, 78, 88, 98, 106, 115, 128, 142, 147, 170, 178, 183], 68) := by decide +kernel
theorem dX4_count_84 : decode cX4_count 84 = .ok (.aload_n 2, 1) := by decide +kernel
theorem dX4_count_85 : decode cX4_count 85 = .ok (.getfield 102, 3) := by decide +kernel
theorem dX4_count_88 : decode cX4_count 88 = .ok (.ireturn, 1) := by decide +kernel
theorem dX4_count_89 : decode cX4_count 89 = .ok (.aload_n 2, 1) := by decide +kernel
theorem dX4_count_90 : decode cX4_count 90 = .ok (.invokevirtual 105, 3) := by decide +kernel
theorem dX4_count_93 : decode cX4_count 93 = .ok (.ireturn, 1) := by decide +kernel
theorem dX4_count_94 : decode cX4_count 94 = .ok (.aload_n 2, 1) := by decide +kernel
theorem dX4_count_95 : decode cX4_count 95 = .ok (.getfield 108, 3) := by decide +kernel
theorem dX4_count_98 : decode cX4_count 98 = .ok (.iconst 0, 1) := by decide +kernel
theorem dX4_count_99 : decode cX4_count 99 = .ok (.laload, 1) := by decide +kernel
theorem dX4_count_100 : decode cX4_count 100 = .ok (.invokestatic 112, 3) := by decide +kernel
theorem dX4_count_103 : decode cX4_count 103 = .ok (.ireturn, 1) := by decide +kernel
theorem dX4_count_104 : decode cX4_count 104 = .ok (.aload_n 2, 1) := by decide +kernel
theorem dX4_count_105 : decode cX4_count 105 = .ok (.getfield 108, 3) := by decide +kernel
theorem dX4_count_108 : decode cX4_count 108 = .ok (.iconst 1, 1) := by decide +kernel
theorem dX4_count_109 : decode cX4_count 109 = .ok (.laload, 1) := by decide +kernel
theorem dX4_count_110 : decode cX4_count 110 = .ok (.invokestatic 112, 3) := by decide +kernel
theorem dX4_count_113 : decode cX4_count 113 = .ok (.ireturn, 1) := by decide +kernel
theorem dX4_count_114 : decode cX4_count 114 = .ok (.aload_n 2, 1) := by decide +kernel
theorem dX4_count_115 : decode cX4_count 115 = .ok (.invokevirtual 118, 3) := by decide +kernel
theorem dX4_count_118 : decode cX4_count 118 = .ok (.invokestatic 112, 3) := by decide +kernel
theorem dX4_count_121 : decode cX4_count 121 = .ok (.ireturn, 1) := by decide +kernel
theorem dX4_count_122 : decode cX4_count 122 = .ok (.aload_n 2, 1) := by decide +kernel
theorem dX4_count_123 : decode cX4_count 123 = .ok (.iload_n 3, 1) := by decide +kernel
theorem dX4_count_124 : decode cX4_count 124 = .ok (.invokevirtual 122, 3) := by decide +kernel
theorem dX4_count_127 : decode cX4_count 127 = .ok (.invokestatic 112, 3) := by decide +kernel
theorem dX4_count_130 : decode cX4_count 130 = .ok (.ireturn, 1) := by decide +kernel
theorem dX4_count_131 : decode cX4_count 131 = .ok (.aload_n 2, 1) := by decide +kernel
theorem dX4_count_132 : decode cX4_count 132 = .ok (.iconst 0, 1) := by decide +kernel
theorem dX4_count_133 : decode cX4_count 133 = .ok (.aload_n 2, 1) := by decide +kernel
theorem dX4_count_134 : decode cX4_count 134 = .ok (.invokevirtual 118, 3) := by decide +kernel
theorem dX4_count_137 : decode cX4_count 137 = .ok (.invokevirtual 126, 3) := by decide +kernel
theorem dX4_count_140 : decode cX4_count 140 = .ok (.invokestatic 112, 3) := by decide +kernel
theorem dX4_count_143 : decode cX4_count 143 = .ok (.ireturn, 1) := by decide +kernel
theorem dX4_count_144 : decode cX4_count 144 = .ok (.aload_n 2, 1) := by decide +kernel
theorem dX4_count_145 : decode cX4_count 145 = .ok (.iconst 1, 1) := by decide +kernel
theorem dX4_count_146 : decode cX4_count 146 = .ok (.aload_n 2, 1) := by decide +kernel
theorem dX4_count_147 : decode cX4_count 147 = .ok (.iload_n 3, 1) := by decide +kernel
theorem dX4_count_148 : decode cX4_count 148 = .ok (.invokevirtual 122, 3) := by decide +kernel
theorem dX4_count_151 : decode cX4_count 151 = .ok (.invokevirtual 126, 3) := by decide +kernel
theorem dX4_count_154 : decode cX4_count 154 = .ok (.invokestatic 112, 3) := by decide +kernel
theorem dX4_count_157 : decode cX4_count 157 = .ok (.ireturn, 1) := by decide +kernel
theorem dX4_count_158 : decode cX4_count 158 = .ok (.aload_n 2, 1) := by decide +kernel
theorem dX4_count_159 : decode cX4_count 159 = .ok (.invokevirtual 130, 3) := by decide +kernel
theorem dX4_count_162 : decode cX4_count 162 = .ok (.ireturn, 1) := by decide +kernel
theorem dX4_count_163 : decode cX4_count 163 = .ok (.aload_n 2, 1) := by decide +kernel
theorem dX4_count_164 : decode cX4_count 164 = .ok (.invokevirtual 105, 3) := by decide +kernel
theorem dX4_count_167 : decode cX4_count 167 = .ok (.ifCond .le 16, 3) := by decide +kernel
theorem dX4_count_170 : decode cX4_count 170 = .ok (.aload_n 2, 1) := by decide +kernel
theorem dX4_count_171 : decode cX4_count 171 = .ok (.aload_n 2, 1) := by decide +kernel
theorem dX4_count_172 : decode cX4_count 172 = .ok (.invokevirtual 105, 3) := by decide +kernel
theorem dX4_count_175 : decode cX4_count 175 = .ok (.iconst 1, 1) := by decide +kernel
theorem dX4_count_176 : decode cX4_count 176 = .ok (.isub, 1) := by decide +kernel
theorem dX4_count_177 : decode cX4_count 177 = .ok (.invokevirtual 133, 3) := by decide +kernel
theorem dX4_count_180 : decode cX4_count 180 = .ok (.goto 5, 3) := by decide +kernel
theorem dX4_count_183 : decode cX4_count 183 = .ok (.bipush (-9), 2) := by decide +kernel
theorem dX4_count_185 : decode cX4_count 185 = .ok (.ireturn, 1) := by decide +kernel
theorem dX4_count_186 : decode cX4_count 186 = .ok (.aload_n 0, 1) := by decide +kernel
theorem dX4_count_187 : decode cX4_count 187 = .ok (.getfield 10, 3) := by decide +kernel
theorem dX4_count_190 : decode cX4_count 190 = .ok (.invokevirtual 136, 3) := by decide +kernel
theorem dX4_count_193 : decode cX4_count 193 = .ok (.ireturn, 1) := by decide +kernel
theorem dX4_count_194 : decode cX4_count 194 = .ok (.aload_n 0, 1) := by decide +kernel
theorem dX4_count_195 : decode cX4_count 195 = .ok (.getfield 80, 3) := by decide +kernel
theorem dX4_count_198 : decode cX4_count 198 = .ok (.ireturn, 1) := by decide +kernel
theorem dX4_count_199 : decode cX4_count 199 = .ok (.aload_n 0, 1) := by decide +kernel
theorem dX4_count_200 : decode cX4_count 200 = .ok (.getfield 23, 3) := by decide +kernel
theorem dX4_count_203 : decode cX4_count 203 = .ok (.invokevirtual 139, 3) := by decide +kernel
theorem dX4_count_206 : decode cX4_count 206 = .ok (.ireturn, 1) := by decide +kernel
theorem dX4_count_207 : decode cX4_count 207 = .ok (.aload_n 0, 1) := by decide +kernel
theorem dX4_count_208 : decode cX4_count 208 = .ok (.iload_n 1, 1) := by decide +kernel
theorem dX4_count_209 : decode cX4_count 209 = .ok (.invokevirtual 141, 3) := by decide +kernel
theorem dX4_count_212 : decode cX4_count 212 = .ok (.ireturn, 1) := by decide +kernel
set_option maxRecDepth 20000 in
theorem ggX4_spot_X4_isSpot : GoodIn wsX4_spot wsX4_isSpot := goodIn_r _ [9] (by decide +kernel) (by decide +kernel)
set_option maxRecDepth 20000 in
theorem gX4_spot_X4_isSpot : GoodIn wsX4_spot (va_wsS RX4 144 yX4_isSpot wsX4_isSpot) := goodIn_app (goodIn_of _ (by decide +kernel)) ggX4_spot_X4_isSpot
set_option maxRecDepth 20000 in
theorem ggX4_spot_X4_bit : GoodIn wsX4_spot wsX4_bit := goodIn_r _ [12] (by decide +kernel) (by decide +kernel)
set_option maxRecDepth 20000 in
theorem gX4_spot_X4_bit : GoodIn wsX4_spot (va_wsS RX4 151 yX4_bit wsX4_bit) := goodIn_app (goodIn_of _ (by decide +kernel)) ggX4_spot_X4_bit
set_option maxRecDepth 20000 in
theorem ggX4_spot_X1_positionOf : GoodIn wsX4_spot wsX1_positionOf := goodIn_r _ [17, 18, 19, 99, 100, 101, 102, 103] (by decide +kernel) (by decide +kernel)
set_option maxRecDepth 20000 in
theorem gX4_spot_X1_positionOf : GoodIn wsX4_spot (wsV RX4 155 RX1 yX1_positionOf wsX1_positionOf) := goodIn_app (goodIn_of _ (by decide +kernel)) ggX4_spot_X1_positionOf
set_option maxRecDepth 20000 in
theorem ggX4_spot_X1_litTick : GoodIn wsX4_spot wsX1_litTick := goodIn_r _ [23, 24, 25, 14, 15, 16, 17, 18, 19, 26, 27, 28, 29, 30, 8, 31, 32, 33, 34, 35, 99, 100, 101, 102, 103] (by decide +kernel) (by decide +kernel)
set_option maxRecDepth 20000 in
theorem gX4_spot_X1_litTick : GoodIn wsX4_spot (wsV RX4 158 RX1 yX1_litTick wsX1_litTick) := goodIn_app (goodIn_of _ (by decide +kernel)) ggX4_spot_X1_litTick
set_option maxRecDepth 20000 in
theorem ggX4_spot_X1_seenByEye : GoodIn wsX4_spot wsX1_seenByEye := goodIn_r _ [39, 24, 40, 41, 42, 16, 43, 18, 19, 44, 45, 46, 47, 48, 21, 22, 23, 25, 14, 15, 17, 26, 27, 28, 29, 30, 8, 31, 32, 33, 34, 35, 49, 50, 51, 52, 53, 54, 55, 56, 57, 58, 59, 60, 61, 62, 63, 64, 65, 99, 100, 101, 102, 103] (by decide +kernel) (by decide +kernel)
set_option maxRecDepth 20000 in
theorem gX4_spot_X1_seenByEye : GoodIn wsX4_spot (wsV RX4 118 RX1 yX1_seenByEye wsX1_seenByEye) := goodIn_app (goodIn_of _ (by decide +kernel)) ggX4_spot_X1_seenByEye
set_option maxRecDepth 20000 in
theorem ggX4_spot_X1_seenByShutter : GoodIn wsX4_spot wsX1_seenByShutter := goodIn_r _ [69, 24, 70, 71, 72, 16, 73, 40, 41, 42, 43, 18, 19, 44, 45, 46, 47, 48, 21, 22, 23, 25, 14, 15, 17, 26, 27, 28, 29, 30, 8, 31, 32, 33, 34, 35, 49, 50, 51, 52, 53, 54, 55, 56, 57, 58, 59, 60, 61, 62, 63, 64, 65, 99, 100, 101, 102, 103] (by decide +kernel) (by decide +kernel)
set_option maxRecDepth 20000 in
theorem gX4_spot_X1_seenByShutter : GoodIn wsX4_spot (wsV RX4 122 RX1 yX1_seenByShutter wsX1_seenByShutter) := goodIn_app (goodIn_of _ (by decide +kernel)) ggX4_spot_X1_seenByShutter
set_option maxRecDepth 20000 in
theorem ggX4_spot_X1_eyeMean : GoodIn wsX4_spot wsX1_eyeMean := goodIn_r _ [77, 24, 44, 45, 46, 16, 47, 48, 21, 22, 23, 25, 14, 15, 17, 18, 19, 26, 27, 28, 29, 30, 8, 31, 32, 33, 34, 35, 49, 50, 51, 52, 53, 54, 55, 56, 57, 58, 59, 60, 61, 62, 63, 64, 65, 99, 100, 101, 102, 103] (by decide +kernel) (by decide +kernel)
set_option maxRecDepth 20000 in
theorem gX4_spot_X1_eyeMean : GoodIn wsX4_spot (wsV RX4 161 RX1 yX1_eyeMean wsX1_eyeMean) := goodIn_app (goodIn_of _ (by decide +kernel)) ggX4_spot_X1_eyeMean
set_option maxRecDepth 20000 in
theorem ggX4_spot_X1_shutterMean : GoodIn wsX4_spot wsX1_shutterMean := goodIn_r _ [81, 70, 71, 72, 16, 73, 24, 44, 45, 46, 47, 48, 21, 22, 23, 25, 14, 15, 17, 18, 19, 26, 27, 28, 29, 30, 8, 31, 32, 33, 34, 35, 49, 50, 51, 52, 53, 54, 55, 56, 57, 58, 59, 60, 61, 62, 63, 64, 65, 99, 100, 101, 102, 103] (by decide +kernel) (by decide +kernel)
set_option maxRecDepth 20000 in
theorem gX4_spot_X1_shutterMean : GoodIn wsX4_spot (wsV RX4 164 RX1 yX1_shutterMean wsX1_shutterMean) := goodIn_app (goodIn_of _ (by decide +kernel)) ggX4_spot_X1_shutterMean
set_option maxRecDepth 20000 in
theorem ggX4_spot_X1_flicker : GoodIn wsX4_spot wsX1_flicker := goodIn_r _ [85, 24, 86, 57, 34, 58, 87, 88, 89, 48, 21, 22, 16, 23, 25, 14, 15, 17, 18, 19, 26, 27, 28, 29, 30, 8, 31, 32, 33, 35, 49, 50, 51, 52, 53, 54, 55, 56, 99, 100, 101, 102, 103] (by decide +kernel) (by decide +kernel)
set_option maxRecDepth 20000 in
theorem gX4_spot_X1_flicker : GoodIn wsX4_spot (wsV RX4 167 RX1 yX1_flicker wsX1_flicker) := goodIn_app (goodIn_of _ (by decide +kernel)) ggX4_spot_X1_flicker
theorem dX4_spot_0 : decode cX4_spot 0 = .ok (.iload_n 1, 1) := by decide +kernel
theorem dX4_spot_1 : decode cX4_spot 1 = .ok (.invokestatic 144, 3) := by decide +kernel
theorem dX4_spot_4 : decode cX4_spot 4 = .ok (.ifCond .ne 5, 3) := by decide +kernel
theorem dX4_spot_7 : decode cX4_spot 7 = .ok (.iconst (-1), 1) := by decide +kernel
theorem dX4_spot_8 : decode cX4_spot 8 = .ok (.ireturn, 1) := by decide +kernel
theorem dX4_spot_9 : decode cX4_spot 9 = .ok (.aload_n 0, 1) := by decide +kernel
theorem dX4_spot_10 : decode cX4_spot 10 = .ok (.getfield 10, 3) := by decide +kernel
theorem dX4_spot_13 : decode cX4_spot 13 = .ok (.getfield 41, 3) := by decide +kernel
theorem dX4_spot_16 : decode cX4_spot 16 = .ok (.astore_n 3, 1) := by decide +kernel
theorem dX4_spot_17 : decode cX4_spot 17 = .ok (.iload_n 2, 1) := by decide +kernel
theorem dX4_spot_18 : decode cX4_spot 18 = .ok (.tableswitch 143 0 9 #[54, 61, 72, 83, 89, 95, 104, 119, 125, 137], 54) := by decide +kernel
theorem dX4_spot_72 : decode cX4_spot 72 = .ok (.aload_n 3, 1) := by decide +kernel
theorem dX4_spot_73 : decode cX4_spot 73 = .ok (.getfield 148, 3) := by decide +kernel
theorem dX4_spot_76 : decode cX4_spot 76 = .ok (.iload_n 1, 1) := by decide +kernel
theorem dX4_spot_77 : decode cX4_spot 77 = .ok (.iaload, 1) := by decide +kernel
theorem dX4_spot_78 : decode cX4_spot 78 = .ok (.ireturn, 1) := by decide +kernel
theorem dX4_spot_79 : decode cX4_spot 79 = .ok (.aload_n 3, 1) := by decide +kernel
theorem dX4_spot_80 : decode cX4_spot 80 = .ok (.getfield 108, 3) := by decide +kernel
theorem dX4_spot_83 : decode cX4_spot 83 = .ok (.iconst 0, 1) := by decide +kernel
theorem dX4_spot_84 : decode cX4_spot 84 = .ok (.laload, 1) := by decide +kernel
theorem dX4_spot_85 : decode cX4_spot 85 = .ok (.iload_n 1, 1) := by decide +kernel
theorem dX4_spot_86 : decode cX4_spot 86 = .ok (.invokestatic 151, 3) := by decide +kernel
theorem dX4_spot_89 : decode cX4_spot 89 = .ok (.ireturn, 1) := by decide +kernel
theorem dX4_spot_90 : decode cX4_spot 90 = .ok (.aload_n 3, 1) := by decide +kernel
theorem dX4_spot_91 : decode cX4_spot 91 = .ok (.getfield 108, 3) := by decide +kernel
theorem dX4_spot_94 : decode cX4_spot 94 = .ok (.iconst 1, 1) := by decide +kernel
theorem dX4_spot_95 : decode cX4_spot 95 = .ok (.laload, 1) := by decide +kernel
theorem dX4_spot_96 : decode cX4_spot 96 = .ok (.iload_n 1, 1) := by decide +kernel
theorem dX4_spot_97 : decode cX4_spot 97 = .ok (.invokestatic 151, 3) := by decide +kernel
theorem dX4_spot_100 : decode cX4_spot 100 = .ok (.ireturn, 1) := by decide +kernel
theorem dX4_spot_101 : decode cX4_spot 101 = .ok (.aload_n 3, 1) := by decide +kernel
theorem dX4_spot_102 : decode cX4_spot 102 = .ok (.iload_n 1, 1) := by decide +kernel
theorem dX4_spot_103 : decode cX4_spot 103 = .ok (.invokevirtual 155, 3) := by decide +kernel
theorem dX4_spot_106 : decode cX4_spot 106 = .ok (.ireturn, 1) := by decide +kernel
theorem dX4_spot_107 : decode cX4_spot 107 = .ok (.aload_n 3, 1) := by decide +kernel
theorem dX4_spot_108 : decode cX4_spot 108 = .ok (.iload_n 1, 1) := by decide +kernel
theorem dX4_spot_109 : decode cX4_spot 109 = .ok (.invokevirtual 158, 3) := by decide +kernel
theorem dX4_spot_112 : decode cX4_spot 112 = .ok (.ireturn, 1) := by decide +kernel
theorem dX4_spot_113 : decode cX4_spot 113 = .ok (.aload_n 3, 1) := by decide +kernel
theorem dX4_spot_114 : decode cX4_spot 114 = .ok (.invokevirtual 118, 3) := by decide +kernel
theorem dX4_spot_117 : decode cX4_spot 117 = .ok (.iload_n 1, 1) := by decide +kernel
theorem dX4_spot_118 : decode cX4_spot 118 = .ok (.invokestatic 151, 3) := by decide +kernel
theorem dX4_spot_121 : decode cX4_spot 121 = .ok (.ireturn, 1) := by decide +kernel
theorem dX4_spot_122 : decode cX4_spot 122 = .ok (.aload_n 3, 1) := by decide +kernel
theorem dX4_spot_123 : decode cX4_spot 123 = .ok (.aload_n 3, 1) := by decide +kernel
theorem dX4_spot_124 : decode cX4_spot 124 = .ok (.getfield 99, 3) := by decide +kernel
theorem dX4_spot_127 : decode cX4_spot 127 = .ok (.iconst 4, 1) := by decide +kernel
theorem dX4_spot_128 : decode cX4_spot 128 = .ok (.iaload, 1) := by decide +kernel
theorem dX4_spot_129 : decode cX4_spot 129 = .ok (.invokevirtual 122, 3) := by decide +kernel
theorem dX4_spot_132 : decode cX4_spot 132 = .ok (.iload_n 1, 1) := by decide +kernel
theorem dX4_spot_133 : decode cX4_spot 133 = .ok (.invokestatic 151, 3) := by decide +kernel
theorem dX4_spot_136 : decode cX4_spot 136 = .ok (.ireturn, 1) := by decide +kernel
theorem dX4_spot_137 : decode cX4_spot 137 = .ok (.aload_n 3, 1) := by decide +kernel
theorem dX4_spot_138 : decode cX4_spot 138 = .ok (.iload_n 1, 1) := by decide +kernel
theorem dX4_spot_139 : decode cX4_spot 139 = .ok (.invokevirtual 161, 3) := by decide +kernel
theorem dX4_spot_142 : decode cX4_spot 142 = .ok (.ireturn, 1) := by decide +kernel
theorem dX4_spot_143 : decode cX4_spot 143 = .ok (.aload_n 3, 1) := by decide +kernel
theorem dX4_spot_144 : decode cX4_spot 144 = .ok (.iload_n 1, 1) := by decide +kernel
theorem dX4_spot_145 : decode cX4_spot 145 = .ok (.aload_n 3, 1) := by decide +kernel
theorem dX4_spot_146 : decode cX4_spot 146 = .ok (.getfield 99, 3) := by decide +kernel
theorem dX4_spot_149 : decode cX4_spot 149 = .ok (.iconst 4, 1) := by decide +kernel
theorem dX4_spot_150 : decode cX4_spot 150 = .ok (.iaload, 1) := by decide +kernel
theorem dX4_spot_151 : decode cX4_spot 151 = .ok (.invokevirtual 164, 3) := by decide +kernel
theorem dX4_spot_154 : decode cX4_spot 154 = .ok (.ireturn, 1) := by decide +kernel
theorem dX4_spot_155 : decode cX4_spot 155 = .ok (.aload_n 3, 1) := by decide +kernel
theorem dX4_spot_156 : decode cX4_spot 156 = .ok (.iload_n 1, 1) := by decide +kernel
theorem dX4_spot_157 : decode cX4_spot 157 = .ok (.invokevirtual 167, 3) := by decide +kernel
theorem dX4_spot_160 : decode cX4_spot 160 = .ok (.ireturn, 1) := by decide +kernel
theorem dX4_spot_161 : decode cX4_spot 161 = .ok (.iconst (-1), 1) := by decide +kernel
theorem dX4_spot_162 : decode cX4_spot 162 = .ok (.ireturn, 1) := by decide +kernel
theorem dX4_at_0 : decode cX4_at 0 = .ok (.iload_n 1, 1) := by decide +kernel
theorem dX4_at_1 : decode cX4_at 1 = .ok (.ifCond .ge 5, 3) := by decide +kernel
theorem dX4_at_4 : decode cX4_at 4 = .ok (.iconst (-1), 1) := by decide +kernel
theorem dX4_at_5 : decode cX4_at 5 = .ok (.ireturn, 1) := by decide +kernel
theorem dX4_at_6 : decode cX4_at 6 = .ok (.iload_n 1, 1) := by decide +kernel
theorem dX4_at_7 : decode cX4_at 7 = .ok (.aload_n 0, 1) := by decide +kernel
theorem dX4_at_8 : decode cX4_at 8 = .ok (.getfield 10, 3) := by decide +kernel
theorem dX4_at_11 : decode cX4_at 11 = .ok (.getfield 41, 3) := by decide +kernel
theorem dX4_at_14 : decode cX4_at 14 = .ok (.getfield 102, 3) := by decide +kernel
theorem dX4_at_17 : decode cX4_at 17 = .ok (.if_icmp .ge 18, 3) := by decide +kernel
theorem dX4_at_20 : decode cX4_at 20 = .ok (.aload_n 0, 1) := by decide +kernel
theorem dX4_at_21 : decode cX4_at 21 = .ok (.getfield 10, 3) := by decide +kernel
theorem dX4_at_24 : decode cX4_at 24 = .ok (.getfield 41, 3) := by decide +kernel
theorem dX4_at_27 : decode cX4_at 27 = .ok (.getfield 170, 3) := by decide +kernel
theorem dX4_at_30 : decode cX4_at 30 = .ok (.iload_n 1, 1) := by decide +kernel
theorem dX4_at_31 : decode cX4_at 31 = .ok (.iaload, 1) := by decide +kernel
theorem dX4_at_32 : decode cX4_at 32 = .ok (.goto 5, 3) := by decide +kernel
theorem dX4_at_35 : decode cX4_at 35 = .ok (.bipush (-9), 2) := by decide +kernel
theorem dX4_at_37 : decode cX4_at 37 = .ok (.ireturn, 1) := by decide +kernel
set_option maxRecDepth 20000 in
theorem ggX4_brightness_X4_isSpot : GoodIn wsX4_brightness wsX4_isSpot := goodIn_r _ [7] (by decide +kernel) (by decide +kernel)
set_option maxRecDepth 20000 in
theorem gX4_brightness_X4_isSpot : GoodIn wsX4_brightness (va_wsS RX4 144 yX4_isSpot wsX4_isSpot) := goodIn_app (goodIn_of _ (by decide +kernel)) ggX4_brightness_X4_isSpot
set_option maxRecDepth 20000 in
theorem ggX4_brightness_X1_litTick : GoodIn wsX4_brightness wsX1_litTick := goodIn_r _ [12, 13, 14, 15, 16, 11, 17, 18, 19, 20, 21, 22, 23, 24, 6, 25, 26, 27, 28, 29, 49, 50, 51, 52, 53] (by decide +kernel) (by decide +kernel)
set_option maxRecDepth 20000 in
theorem gX4_brightness_X1_litTick : GoodIn wsX4_brightness (wsV RX4 158 RX1 yX1_litTick wsX1_litTick) := goodIn_app (goodIn_of _ (by decide +kernel)) ggX4_brightness_X1_litTick
set_option maxRecDepth 20000 in
theorem ggX4_brightness_X1_shine : GoodIn wsX4_brightness wsX1_shine := goodIn_r _ [33, 34, 13, 35, 6, 36, 37, 38, 28, 39, 49, 50, 51, 52, 53] (by decide +kernel) (by decide +kernel)
set_option maxRecDepth 20000 in
theorem gX4_brightness_X1_shine : GoodIn wsX4_brightness (wsV RX4 173 RX1 yX1_shine wsX1_shine) := goodIn_app (goodIn_of _ (by decide +kernel)) ggX4_brightness_X1_shine
theorem dX4_brightness_0 : decode cX4_brightness 0 = .ok (.aload_n 0, 1) := by decide +kernel
theorem dX4_brightness_1 : decode cX4_brightness 1 = .ok (.getfield 10, 3) := by decide +kernel
theorem dX4_brightness_4 : decode cX4_brightness 4 = .ok (.getfield 41, 3) := by decide +kernel
theorem dX4_brightness_7 : decode cX4_brightness 7 = .ok (.astore_n 3, 1) := by decide +kernel
theorem dX4_brightness_8 : decode cX4_brightness 8 = .ok (.iload_n 1, 1) := by decide +kernel
theorem dX4_brightness_9 : decode cX4_brightness 9 = .ok (.invokestatic 144, 3) := by decide +kernel
theorem dX4_brightness_12 : decode cX4_brightness 12 = .ok (.ifCond .eq 17, 3) := by decide +kernel
theorem dX4_brightness_15 : decode cX4_brightness 15 = .ok (.iload_n 2, 1) := by decide +kernel
theorem dX4_brightness_16 : decode cX4_brightness 16 = .ok (.ifCond .lt 13, 3) := by decide +kernel
theorem dX4_brightness_19 : decode cX4_brightness 19 = .ok (.iload_n 2, 1) := by decide +kernel
theorem dX4_brightness_20 : decode cX4_brightness 20 = .ok (.aload_n 3, 1) := by decide +kernel
theorem dX4_brightness_21 : decode cX4_brightness 21 = .ok (.getfield 99, 3) := by decide +kernel
theorem dX4_brightness_24 : decode cX4_brightness 24 = .ok (.iconst 0, 1) := by decide +kernel
theorem dX4_brightness_25 : decode cX4_brightness 25 = .ok (.iaload, 1) := by decide +kernel
theorem dX4_brightness_26 : decode cX4_brightness 26 = .ok (.if_icmp .lt 5, 3) := by decide +kernel
theorem dX4_brightness_29 : decode cX4_brightness 29 = .ok (.iconst (-1), 1) := by decide +kernel
theorem dX4_brightness_30 : decode cX4_brightness 30 = .ok (.ireturn, 1) := by decide +kernel
theorem dX4_brightness_31 : decode cX4_brightness 31 = .ok (.aload_n 3, 1) := by decide +kernel
theorem dX4_brightness_32 : decode cX4_brightness 32 = .ok (.iload_n 1, 1) := by decide +kernel
theorem dX4_brightness_33 : decode cX4_brightness 33 = .ok (.aload_n 3, 1) := by decide +kernel
theorem dX4_brightness_34 : decode cX4_brightness 34 = .ok (.iload_n 1, 1) := by decide +kernel
theorem dX4_brightness_35 : decode cX4_brightness 35 = .ok (.invokevirtual 158, 3) := by decide +kernel
theorem dX4_brightness_38 : decode cX4_brightness 38 = .ok (.iload_n 2, 1) := by decide +kernel
theorem dX4_brightness_39 : decode cX4_brightness 39 = .ok (.invokevirtual 173, 3) := by decide +kernel
theorem dX4_brightness_42 : decode cX4_brightness 42 = .ok (.ireturn, 1) := by decide +kernel
set_option maxRecDepth 20000 in
theorem ggX4_firstWrong_X1_seenByEye : GoodIn wsX4_firstWrong wsX1_seenByEye := goodIn_r _ [8, 9, 10, 11, 12, 7, 13, 14, 15, 16, 17, 18, 19, 20, 21, 22, 23, 24, 25, 26, 27, 28, 29, 30, 31, 32, 33, 34, 35, 36, 37, 38, 39, 40, 41, 42, 43, 44, 45, 46, 47, 48, 49, 50, 51, 52, 53, 54, 55, 84, 85, 86, 87, 88] (by decide +kernel) (by decide +kernel)
set_option maxRecDepth 20000 in
theorem gX4_firstWrong_X1_seenByEye : GoodIn wsX4_firstWrong (wsV RX4 118 RX1 yX1_seenByEye wsX1_seenByEye) := goodIn_app (goodIn_of _ (by decide +kernel)) ggX4_firstWrong_X1_seenByEye
set_option maxRecDepth 20000 in
theorem ggX4_firstWrong_X1_wrong : GoodIn wsX4_firstWrong wsX1_wrong := goodIn_r _ [59, 60, 84, 85, 86, 87, 88] (by decide +kernel) (by decide +kernel)
set_option maxRecDepth 20000 in
theorem gX4_firstWrong_X1_wrong : GoodIn wsX4_firstWrong (wsV RX4 126 RX1 yX1_wrong wsX1_wrong) := goodIn_app (goodIn_of _ (by decide +kernel)) ggX4_firstWrong_X1_wrong
set_option maxRecDepth 20000 in
theorem ggX4_firstWrong_X4_firstOf : GoodIn wsX4_firstWrong wsX4_firstOf := goodIn_r _ [63, 64, 65, 33, 66] (by decide +kernel) (by decide +kernel)
set_option maxRecDepth 20000 in
theorem gX4_firstWrong_X4_firstOf : GoodIn wsX4_firstWrong (va_wsS RX4 176 yX4_firstOf wsX4_firstOf) := goodIn_app (goodIn_of _ (by decide +kernel)) ggX4_firstWrong_X4_firstOf
set_option maxRecDepth 20000 in
theorem ggX4_firstWrong_X1_seenByShutter : GoodIn wsX4_firstWrong wsX1_seenByShutter := goodIn_r _ [70, 9, 71, 72, 73, 7, 74, 10, 11, 12, 13, 14, 15, 16, 17, 18, 19, 20, 21, 22, 23, 24, 25, 26, 27, 28, 29, 30, 31, 32, 33, 34, 35, 36, 37, 38, 39, 40, 41, 42, 43, 44, 45, 46, 47, 48, 49, 50, 51, 52, 53, 54, 55, 84, 85, 86, 87, 88] (by decide +kernel) (by decide +kernel)
set_option maxRecDepth 20000 in
theorem gX4_firstWrong_X1_seenByShutter : GoodIn wsX4_firstWrong (wsV RX4 122 RX1 yX1_seenByShutter wsX1_seenByShutter) := goodIn_app (goodIn_of _ (by decide +kernel)) ggX4_firstWrong_X1_seenByShutter
theorem dX4_firstWrong_0 : decode cX4_firstWrong 0 = .ok (.aload_n 0, 1) := by decide +kernel
theorem dX4_firstWrong_1 : decode cX4_firstWrong 1 = .ok (.getfield 10, 3) := by decide +kernel
theorem dX4_firstWrong_4 : decode cX4_firstWrong 4 = .ok (.getfield 41, 3) := by decide +kernel
theorem dX4_firstWrong_7 : decode cX4_firstWrong 7 = .ok (.astore_n 2, 1) := by decide +kernel
theorem dX4_firstWrong_8 : decode cX4_firstWrong 8 = .ok (.iload_n 1, 1) := by decide +kernel
theorem dX4_firstWrong_9 : decode cX4_firstWrong 9 = .ok (.lookupswitch 59 #[(0, 27), (1, 40)], 27) := by decide +kernel
theorem dX4_firstWrong_36 : decode cX4_firstWrong 36 = .ok (.aload_n 2, 1) := by decide +kernel
theorem dX4_firstWrong_37 : decode cX4_firstWrong 37 = .ok (.iconst 0, 1) := by decide +kernel
theorem dX4_firstWrong_38 : decode cX4_firstWrong 38 = .ok (.aload_n 2, 1) := by decide +kernel
theorem dX4_firstWrong_39 : decode cX4_firstWrong 39 = .ok (.invokevirtual 118, 3) := by decide +kernel
theorem dX4_firstWrong_42 : decode cX4_firstWrong 42 = .ok (.invokevirtual 126, 3) := by decide +kernel
theorem dX4_firstWrong_45 : decode cX4_firstWrong 45 = .ok (.invokestatic 176, 3) := by decide +kernel
theorem dX4_firstWrong_48 : decode cX4_firstWrong 48 = .ok (.ireturn, 1) := by decide +kernel
theorem dX4_firstWrong_49 : decode cX4_firstWrong 49 = .ok (.aload_n 2, 1) := by decide +kernel
theorem dX4_firstWrong_50 : decode cX4_firstWrong 50 = .ok (.iconst 1, 1) := by decide +kernel
theorem dX4_firstWrong_51 : decode cX4_firstWrong 51 = .ok (.aload_n 2, 1) := by decide +kernel
theorem dX4_firstWrong_52 : decode cX4_firstWrong 52 = .ok (.aload_n 2, 1) := by decide +kernel
theorem dX4_firstWrong_53 : decode cX4_firstWrong 53 = .ok (.getfield 99, 3) := by decide +kernel
theorem dX4_firstWrong_56 : decode cX4_firstWrong 56 = .ok (.iconst 4, 1) := by decide +kernel
theorem dX4_firstWrong_57 : decode cX4_firstWrong 57 = .ok (.iaload, 1) := by decide +kernel
theorem dX4_firstWrong_58 : decode cX4_firstWrong 58 = .ok (.invokevirtual 122, 3) := by decide +kernel
theorem dX4_firstWrong_61 : decode cX4_firstWrong 61 = .ok (.invokevirtual 126, 3) := by decide +kernel
theorem dX4_firstWrong_64 : decode cX4_firstWrong 64 = .ok (.invokestatic 176, 3) := by decide +kernel
theorem dX4_firstWrong_67 : decode cX4_firstWrong 67 = .ok (.ireturn, 1) := by decide +kernel
theorem dX4_firstWrong_68 : decode cX4_firstWrong 68 = .ok (.iconst (-1), 1) := by decide +kernel
theorem dX4_firstWrong_69 : decode cX4_firstWrong 69 = .ok (.ireturn, 1) := by decide +kernel
set_option maxRecDepth 20000 in
theorem ggX4_bestStart_X1_countWrong : GoodIn wsX4_bestStart wsX1_countWrong := goodIn_r _ [9, 10, 11, 12, 13, 14, 15, 16, 17, 18, 19, 20, 21, 22, 23, 24, 25, 26, 8, 27, 28, 29, 30, 31, 32, 33, 34, 35, 36, 37, 38, 39, 40, 41, 42, 43, 44, 45, 46, 47, 48, 49, 50, 51, 52, 53, 54, 55, 56, 57, 58, 59, 60, 61, 62, 63, 64, 65, 66, 67, 68, 69, 70, 80, 81, 82, 83, 84] (by decide +kernel) (by decide +kernel)
set_option maxRecDepth 20000 in
theorem gX4_bestStart_X1_countWrong : GoodIn wsX4_bestStart (wsV RX4 179 RX1 yX1_countWrong wsX1_countWrong) := goodIn_app (goodIn_of _ (by decide +kernel)) ggX4_bestStart_X1_countWrong
theorem dX4_bestStart_0 : decode cX4_bestStart 0 = .ok (.iload_n 1, 1) := by decide +kernel
theorem dX4_bestStart_1 : decode cX4_bestStart 1 = .ok (.ifCond .lt 8, 3) := by decide +kernel
theorem dX4_bestStart_4 : decode cX4_bestStart 4 = .ok (.iload_n 1, 1) := by decide +kernel
theorem dX4_bestStart_5 : decode cX4_bestStart 5 = .ok (.iconst 1, 1) := by decide +kernel
theorem dX4_bestStart_6 : decode cX4_bestStart 6 = .ok (.if_icmp .le 5, 3) := by decide +kernel
theorem dX4_bestStart_9 : decode cX4_bestStart 9 = .ok (.iconst (-1), 1) := by decide +kernel
theorem dX4_bestStart_10 : decode cX4_bestStart 10 = .ok (.ireturn, 1) := by decide +kernel
theorem dX4_bestStart_11 : decode cX4_bestStart 11 = .ok (.aload_n 0, 1) := by decide +kernel
theorem dX4_bestStart_12 : decode cX4_bestStart 12 = .ok (.getfield 10, 3) := by decide +kernel
theorem dX4_bestStart_15 : decode cX4_bestStart 15 = .ok (.getfield 41, 3) := by decide +kernel
theorem dX4_bestStart_18 : decode cX4_bestStart 18 = .ok (.aload_n 0, 1) := by decide +kernel
theorem dX4_bestStart_19 : decode cX4_bestStart 19 = .ok (.getfield 34, 3) := by decide +kernel
theorem dX4_bestStart_22 : decode cX4_bestStart 22 = .ok (.invokevirtual 179, 3) := by decide +kernel
theorem dX4_bestStart_25 : decode cX4_bestStart 25 = .ok (.iconst 0, 1) := by decide +kernel
theorem dX4_bestStart_26 : decode cX4_bestStart 26 = .ok (.istore_n 2, 1) := by decide +kernel
theorem dX4_bestStart_27 : decode cX4_bestStart 27 = .ok (.iconst 1, 1) := by decide +kernel
theorem dX4_bestStart_28 : decode cX4_bestStart 28 = .ok (.istore_n 3, 1) := by decide +kernel
theorem dX4_bestStart_29 : decode cX4_bestStart 29 = .ok (.iload_n 3, 1) := by decide +kernel
theorem dX4_bestStart_30 : decode cX4_bestStart 30 = .ok (.aload_n 0, 1) := by decide +kernel
theorem dX4_bestStart_31 : decode cX4_bestStart 31 = .ok (.getfield 10, 3) := by decide +kernel
theorem dX4_bestStart_34 : decode cX4_bestStart 34 = .ok (.getfield 41, 3) := by decide +kernel
theorem dX4_bestStart_37 : decode cX4_bestStart 37 = .ok (.getfield 99, 3) := by decide +kernel
theorem dX4_bestStart_40 : decode cX4_bestStart 40 = .ok (.iconst 0, 1) := by decide +kernel
theorem dX4_bestStart_41 : decode cX4_bestStart 41 = .ok (.iaload, 1) := by decide +kernel
theorem dX4_bestStart_42 : decode cX4_bestStart 42 = .ok (.if_icmp .ge 33, 3) := by decide +kernel
theorem dX4_bestStart_45 : decode cX4_bestStart 45 = .ok (.iload_n 3, 1) := by decide +kernel
theorem dX4_bestStart_46 : decode cX4_bestStart 46 = .ok (.sipush 200, 3) := by decide +kernel
theorem dX4_bestStart_49 : decode cX4_bestStart 49 = .ok (.if_icmp .ge 26, 3) := by decide +kernel
theorem dX4_bestStart_52 : decode cX4_bestStart 52 = .ok (.aload_n 0, 1) := by decide +kernel
theorem dX4_bestStart_53 : decode cX4_bestStart 53 = .ok (.getfield 34, 3) := by decide +kernel
theorem dX4_bestStart_56 : decode cX4_bestStart 56 = .ok (.iload_n 3, 1) := by decide +kernel
theorem dX4_bestStart_57 : decode cX4_bestStart 57 = .ok (.iaload, 1) := by decide +kernel
theorem dX4_bestStart_58 : decode cX4_bestStart 58 = .ok (.aload_n 0, 1) := by decide +kernel
theorem dX4_bestStart_59 : decode cX4_bestStart 59 = .ok (.getfield 34, 3) := by decide +kernel
theorem dX4_bestStart_62 : decode cX4_bestStart 62 = .ok (.iload_n 2, 1) := by decide +kernel
theorem dX4_bestStart_63 : decode cX4_bestStart 63 = .ok (.iaload, 1) := by decide +kernel
theorem dX4_bestStart_64 : decode cX4_bestStart 64 = .ok (.if_icmp .ge 5, 3) := by decide +kernel
theorem dX4_bestStart_67 : decode cX4_bestStart 67 = .ok (.iload_n 3, 1) := by decide +kernel
theorem dX4_bestStart_68 : decode cX4_bestStart 68 = .ok (.istore_n 2, 1) := by decide +kernel
theorem dX4_bestStart_69 : decode cX4_bestStart 69 = .ok (.iinc 3 1, 3) := by decide +kernel
theorem dX4_bestStart_72 : decode cX4_bestStart 72 = .ok (.goto (-43), 3) := by decide +kernel
theorem dX4_bestStart_75 : decode cX4_bestStart 75 = .ok (.iload_n 1, 1) := by decide +kernel
theorem dX4_bestStart_76 : decode cX4_bestStart 76 = .ok (.ifCond .ne 7, 3) := by decide +kernel
theorem dX4_bestStart_79 : decode cX4_bestStart 79 = .ok (.iload_n 2, 1) := by decide +kernel
theorem dX4_bestStart_80 : decode cX4_bestStart 80 = .ok (.goto 9, 3) := by decide +kernel
theorem dX4_bestStart_83 : decode cX4_bestStart 83 = .ok (.aload_n 0, 1) := by decide +kernel
theorem dX4_bestStart_84 : decode cX4_bestStart 84 = .ok (.getfield 34, 3) := by decide +kernel
theorem dX4_bestStart_87 : decode cX4_bestStart 87 = .ok (.iload_n 2, 1) := by decide +kernel
theorem dX4_bestStart_88 : decode cX4_bestStart 88 = .ok (.iaload, 1) := by decide +kernel
theorem dX4_bestStart_89 : decode cX4_bestStart 89 = .ok (.ireturn, 1) := by decide +kernel
set_option maxRecDepth 20000 in
theorem ggX4_leastTravel_X1_spotsOfOrder : GoodIn wsX4_leastTravel wsX1_spotsOfOrder := goodIn_r _ [8, 9, 10, 72, 73, 74, 75, 76] (by decide +kernel) (by decide +kernel)
set_option maxRecDepth 20000 in
theorem gX4_leastTravel_X1_spotsOfOrder : GoodIn wsX4_leastTravel (wsV RX4 183 RX1 yX1_spotsOfOrder wsX1_spotsOfOrder) := goodIn_app (goodIn_of _ (by decide +kernel)) ggX4_leastTravel_X1_spotsOfOrder
set_option maxRecDepth 20000 in
theorem ggX4_leastTravel_X3_plan : GoodIn wsX4_leastTravel wsX3_plan := goodIn_r _ [15, 16, 17, 18, 19, 14, 20, 21, 22, 23, 24, 25, 26, 27, 28, 29, 30, 31, 32, 33, 34, 35, 36, 37, 38, 39, 40, 41, 42, 43, 44, 45, 46, 47, 48, 49, 50, 51, 52, 53, 54, 77, 78, 79, 80, 81, 82] (by decide +kernel) (by decide +kernel)
set_option maxRecDepth 20000 in
theorem gX4_leastTravel_X3_plan : GoodIn wsX4_leastTravel (wsV RX4 186 RX3 yX3_plan wsX3_plan) := goodIn_app (goodIn_of _ (by decide +kernel)) ggX4_leastTravel_X3_plan
set_option maxRecDepth 20000 in
theorem ggX4_leastTravel_X3_sumOfWays : GoodIn wsX4_leastTravel wsX3_sumOfWays := goodIn_r _ [58, 53, 77, 78, 79, 80, 81, 82] (by decide +kernel) (by decide +kernel)
set_option maxRecDepth 20000 in
theorem gX4_leastTravel_X3_sumOfWays : GoodIn wsX4_leastTravel (wsV RX4 190 RX3 yX3_sumOfWays wsX3_sumOfWays) := goodIn_app (goodIn_of _ (by decide +kernel)) ggX4_leastTravel_X3_sumOfWays
set_option maxRecDepth 20000 in
theorem ggX4_leastTravel_X3_stop : GoodIn wsX4_leastTravel wsX3_stop := goodIn_r _ [62, 21, 54, 77, 78, 79, 80, 81, 82] (by decide +kernel) (by decide +kernel)
set_option maxRecDepth 20000 in
theorem gX4_leastTravel_X3_stop : GoodIn wsX4_leastTravel (wsV RX4 191 RX3 yX3_stop wsX3_stop) := goodIn_app (goodIn_of _ (by decide +kernel)) ggX4_leastTravel_X3_stop
theorem dX4_leastTravel_0 : decode cX4_leastTravel 0 = .ok (.iload_n 1, 1) := by decide +kernel
theorem dX4_leastTravel_1 : decode cX4_leastTravel 1 = .ok (.iconst (-1), 1) := by decide +kernel
theorem dX4_leastTravel_2 : decode cX4_leastTravel 2 = .ok (.if_icmp .ge 5, 3) := by decide +kernel
theorem dX4_leastTravel_5 : decode cX4_leastTravel 5 = .ok (.iconst (-1), 1) := by decide +kernel
theorem dX4_leastTravel_6 : decode cX4_leastTravel 6 = .ok (.ireturn, 1) := by decide +kernel
theorem dX4_leastTravel_7 : decode cX4_leastTravel 7 = .ok (.aload_n 0, 1) := by decide +kernel
theorem dX4_leastTravel_8 : decode cX4_leastTravel 8 = .ok (.getfield 30, 3) := by decide +kernel
theorem dX4_leastTravel_11 : decode cX4_leastTravel 11 = .ok (.aload_n 0, 1) := by decide +kernel
theorem dX4_leastTravel_12 : decode cX4_leastTravel 12 = .ok (.getfield 10, 3) := by decide +kernel
theorem dX4_leastTravel_15 : decode cX4_leastTravel 15 = .ok (.getfield 41, 3) := by decide +kernel
theorem dX4_leastTravel_18 : decode cX4_leastTravel 18 = .ok (.invokevirtual 183, 3) := by decide +kernel
theorem dX4_leastTravel_21 : decode cX4_leastTravel 21 = .ok (.invokevirtual 186, 3) := by decide +kernel
theorem dX4_leastTravel_24 : decode cX4_leastTravel 24 = .ok (.iload_n 1, 1) := by decide +kernel
theorem dX4_leastTravel_25 : decode cX4_leastTravel 25 = .ok (.ifCond .ge 13, 3) := by decide +kernel
theorem dX4_leastTravel_28 : decode cX4_leastTravel 28 = .ok (.aload_n 0, 1) := by decide +kernel
theorem dX4_leastTravel_29 : decode cX4_leastTravel 29 = .ok (.getfield 30, 3) := by decide +kernel
theorem dX4_leastTravel_32 : decode cX4_leastTravel 32 = .ok (.invokevirtual 190, 3) := by decide +kernel
theorem dX4_leastTravel_35 : decode cX4_leastTravel 35 = .ok (.goto 11, 3) := by decide +kernel
theorem dX4_leastTravel_38 : decode cX4_leastTravel 38 = .ok (.aload_n 0, 1) := by decide +kernel
theorem dX4_leastTravel_39 : decode cX4_leastTravel 39 = .ok (.getfield 30, 3) := by decide +kernel
theorem dX4_leastTravel_42 : decode cX4_leastTravel 42 = .ok (.iload_n 1, 1) := by decide +kernel
theorem dX4_leastTravel_43 : decode cX4_leastTravel 43 = .ok (.invokevirtual 191, 3) := by decide +kernel
theorem dX4_leastTravel_46 : decode cX4_leastTravel 46 = .ok (.ireturn, 1) := by decide +kernel
set_option maxRecDepth 20000 in
theorem ggX4_longest_X1_seenByShutter : GoodIn wsX4_longest wsX1_seenByShutter := goodIn_r _ [7, 8, 9, 10, 11, 6, 12, 13, 14, 15, 16, 17, 18, 19, 20, 21, 22, 23, 24, 25, 26, 27, 28, 29, 30, 31, 32, 33, 34, 35, 36, 37, 38, 39, 40, 41, 42, 43, 44, 45, 46, 47, 48, 49, 50, 51, 52, 53, 54, 55, 56, 57, 58, 73, 74, 75, 76, 77] (by decide +kernel) (by decide +kernel)
set_option maxRecDepth 20000 in
theorem gX4_longest_X1_seenByShutter : GoodIn wsX4_longest (wsV RX4 122 RX1 yX1_seenByShutter wsX1_seenByShutter) := goodIn_app (goodIn_of _ (by decide +kernel)) ggX4_longest_X1_seenByShutter
set_option maxRecDepth 20000 in
theorem ggX4_longest_X1_wrong : GoodIn wsX4_longest wsX1_wrong := goodIn_r _ [62, 63, 73, 74, 75, 76, 77] (by decide +kernel) (by decide +kernel)
set_option maxRecDepth 20000 in
theorem gX4_longest_X1_wrong : GoodIn wsX4_longest (wsV RX4 126 RX1 yX1_wrong wsX1_wrong) := goodIn_app (goodIn_of _ (by decide +kernel)) ggX4_longest_X1_wrong
theorem dX4_longest_0 : decode cX4_longest 0 = .ok (.bipush 50, 2) := by decide +kernel
theorem dX4_longest_2 : decode cX4_longest 2 = .ok (.istore_n 1, 1) := by decide +kernel
theorem dX4_longest_3 : decode cX4_longest 3 = .ok (.iload_n 1, 1) := by decide +kernel
theorem dX4_longest_4 : decode cX4_longest 4 = .ok (.ifCond .le 38, 3) := by decide +kernel
theorem dX4_longest_7 : decode cX4_longest 7 = .ok (.aload_n 0, 1) := by decide +kernel
theorem dX4_longest_8 : decode cX4_longest 8 = .ok (.getfield 10, 3) := by decide +kernel
theorem dX4_longest_11 : decode cX4_longest 11 = .ok (.getfield 41, 3) := by decide +kernel
theorem dX4_longest_14 : decode cX4_longest 14 = .ok (.iconst 1, 1) := by decide +kernel
theorem dX4_longest_15 : decode cX4_longest 15 = .ok (.aload_n 0, 1) := by decide +kernel
theorem dX4_longest_16 : decode cX4_longest 16 = .ok (.getfield 10, 3) := by decide +kernel
theorem dX4_longest_19 : decode cX4_longest 19 = .ok (.getfield 41, 3) := by decide +kernel
theorem dX4_longest_22 : decode cX4_longest 22 = .ok (.iload_n 1, 1) := by decide +kernel
theorem dX4_longest_23 : decode cX4_longest 23 = .ok (.invokevirtual 122, 3) := by decide +kernel
theorem dX4_longest_26 : decode cX4_longest 26 = .ok (.invokevirtual 126, 3) := by decide +kernel
theorem dX4_longest_29 : decode cX4_longest 29 = .ok (.lconst 0, 1) := by decide +kernel
theorem dX4_longest_30 : decode cX4_longest 30 = .ok (.lcmp, 1) := by decide +kernel
theorem dX4_longest_31 : decode cX4_longest 31 = .ok (.ifCond .ne 5, 3) := by decide +kernel
theorem dX4_longest_34 : decode cX4_longest 34 = .ok (.iload_n 1, 1) := by decide +kernel
theorem dX4_longest_35 : decode cX4_longest 35 = .ok (.ireturn, 1) := by decide +kernel
theorem dX4_longest_36 : decode cX4_longest 36 = .ok (.iinc 1 (-1), 3) := by decide +kernel
theorem dX4_longest_39 : decode cX4_longest 39 = .ok (.goto (-36), 3) := by decide +kernel
theorem dX4_longest_42 : decode cX4_longest 42 = .ok (.bipush (-9), 2) := by decide +kernel
theorem dX4_longest_44 : decode cX4_longest 44 = .ok (.ireturn, 1) := by decide +kernel
set_option maxRecDepth 20000 in
theorem ggX4_ticks_X4_isPhosphor : GoodIn wsX4_ticks wsX4_isPhosphor := goodIn_r _ [4] (by decide +kernel) (by decide +kernel)
set_option maxRecDepth 20000 in
theorem gX4_ticks_X4_isPhosphor : GoodIn wsX4_ticks (va_wsS RX4 194 yX4_isPhosphor wsX4_isPhosphor) := goodIn_app (goodIn_of _ (by decide +kernel)) ggX4_ticks_X4_isPhosphor
set_option maxRecDepth 20000 in
theorem ggX4_ticks_X4_ticksAbove : GoodIn wsX4_ticks wsX4_ticksAbove := goodIn_r _ [7, 8, 9, 3, 10, 11, 12, 13, 14] (by decide +kernel) (by decide +kernel)
set_option maxRecDepth 20000 in
theorem gX4_ticks_X4_ticksAbove : GoodIn wsX4_ticks (va_wsS RX4 197 yX4_ticksAbove wsX4_ticksAbove) := goodIn_app (goodIn_of _ (by decide +kernel)) ggX4_ticks_X4_ticksAbove
theorem dX4_ticks_0 : decode cX4_ticks 0 = .ok (.iload_n 1, 1) := by decide +kernel
theorem dX4_ticks_1 : decode cX4_ticks 1 = .ok (.invokestatic 194, 3) := by decide +kernel
theorem dX4_ticks_4 : decode cX4_ticks 4 = .ok (.ifCond .eq 14, 3) := by decide +kernel
theorem dX4_ticks_7 : decode cX4_ticks 7 = .ok (.iload_n 2, 1) := by decide +kernel
theorem dX4_ticks_8 : decode cX4_ticks 8 = .ok (.iconst 1, 1) := by decide +kernel
theorem dX4_ticks_9 : decode cX4_ticks 9 = .ok (.if_icmp .lt 9, 3) := by decide +kernel
theorem dX4_ticks_12 : decode cX4_ticks 12 = .ok (.iload_n 2, 1) := by decide +kernel
theorem dX4_ticks_13 : decode cX4_ticks 13 = .ok (.bipush 100, 2) := by decide +kernel
theorem dX4_ticks_15 : decode cX4_ticks 15 = .ok (.if_icmp .le 5, 3) := by decide +kernel
theorem dX4_ticks_18 : decode cX4_ticks 18 = .ok (.iconst (-1), 1) := by decide +kernel
theorem dX4_ticks_19 : decode cX4_ticks 19 = .ok (.ireturn, 1) := by decide +kernel
theorem dX4_ticks_20 : decode cX4_ticks 20 = .ok (.iload_n 1, 1) := by decide +kernel
theorem dX4_ticks_21 : decode cX4_ticks 21 = .ok (.iload_n 2, 1) := by decide +kernel
theorem dX4_ticks_22 : decode cX4_ticks 22 = .ok (.invokestatic 197, 3) := by decide +kernel
theorem dX4_ticks_25 : decode cX4_ticks 25 = .ok (.ireturn, 1) := by decide +kernel
set_option maxRecDepth 20000 in
theorem ggX4_shortestPeriod_X1_arrival : GoodIn wsX4_shortestPeriod wsX1_arrival := goodIn_r _ [12, 13, 14, 15, 16, 17, 18, 19, 20, 6, 21, 31, 32, 33, 34, 35] (by decide +kernel) (by decide +kernel)
set_option maxRecDepth 20000 in
theorem gX4_shortestPeriod_X1_arrival : GoodIn wsX4_shortestPeriod (wsV RX4 133 RX1 yX1_arrival wsX1_arrival) := goodIn_app (goodIn_of _ (by decide +kernel)) ggX4_shortestPeriod_X1_arrival
theorem dX4_shortestPeriod_0 : decode cX4_shortestPeriod 0 = .ok (.aload_n 0, 1) := by decide +kernel
theorem dX4_shortestPeriod_1 : decode cX4_shortestPeriod 1 = .ok (.getfield 10, 3) := by decide +kernel
theorem dX4_shortestPeriod_4 : decode cX4_shortestPeriod 4 = .ok (.getfield 41, 3) := by decide +kernel
theorem dX4_shortestPeriod_7 : decode cX4_shortestPeriod 7 = .ok (.aload_n 0, 1) := by decide +kernel
theorem dX4_shortestPeriod_8 : decode cX4_shortestPeriod 8 = .ok (.getfield 10, 3) := by decide +kernel
theorem dX4_shortestPeriod_11 : decode cX4_shortestPeriod 11 = .ok (.getfield 41, 3) := by decide +kernel
theorem dX4_shortestPeriod_14 : decode cX4_shortestPeriod 14 = .ok (.getfield 102, 3) := by decide +kernel
theorem dX4_shortestPeriod_17 : decode cX4_shortestPeriod 17 = .ok (.iconst 1, 1) := by decide +kernel
theorem dX4_shortestPeriod_18 : decode cX4_shortestPeriod 18 = .ok (.isub, 1) := by decide +kernel
theorem dX4_shortestPeriod_19 : decode cX4_shortestPeriod 19 = .ok (.invokevirtual 133, 3) := by decide +kernel
theorem dX4_shortestPeriod_22 : decode cX4_shortestPeriod 22 = .ok (.iconst 1, 1) := by decide +kernel
theorem dX4_shortestPeriod_23 : decode cX4_shortestPeriod 23 = .ok (.iadd, 1) := by decide +kernel
theorem dX4_shortestPeriod_24 : decode cX4_shortestPeriod 24 = .ok (.istore_n 1, 1) := by decide +kernel
theorem dX4_shortestPeriod_25 : decode cX4_shortestPeriod 25 = .ok (.iload_n 1, 1) := by decide +kernel
theorem dX4_shortestPeriod_26 : decode cX4_shortestPeriod 26 = .ok (.sipush 200, 3) := by decide +kernel
theorem dX4_shortestPeriod_29 : decode cX4_shortestPeriod 29 = .ok (.if_icmp .le 8, 3) := by decide +kernel
theorem dX4_shortestPeriod_32 : decode cX4_shortestPeriod 32 = .ok (.bipush (-9), 2) := by decide +kernel
theorem dX4_shortestPeriod_34 : decode cX4_shortestPeriod 34 = .ok (.goto 9, 3) := by decide +kernel
theorem dX4_shortestPeriod_37 : decode cX4_shortestPeriod 37 = .ok (.bipush 8, 2) := by decide +kernel
theorem dX4_shortestPeriod_39 : decode cX4_shortestPeriod 39 = .ok (.iload_n 1, 1) := by decide +kernel
theorem dX4_shortestPeriod_40 : decode cX4_shortestPeriod 40 = .ok (.invokestatic 200, 3) := by decide +kernel
theorem dX4_shortestPeriod_43 : decode cX4_shortestPeriod 43 = .ok (.ireturn, 1) := by decide +kernel
set_option maxRecDepth 20000 in
theorem ggX4_prepare_X2_copyFrom : GoodIn wsX4_prepare wsX2_copyFrom := goodIn_r _ [8, 9, 10, 11, 12, 13, 14, 15, 16, 17, 18, 19, 20, 21, 22, 23, 24, 25, 32, 33, 34, 35, 36, 37, 38, 39] (by decide +kernel) (by decide +kernel)
set_option maxRecDepth 20000 in
theorem gX4_prepare_X2_copyFrom : GoodIn wsX4_prepare (wsV RX4 84 RX2 yX2_copyFrom wsX2_copyFrom) := goodIn_app (goodIn_of _ (by decide +kernel)) ggX4_prepare_X2_copyFrom
theorem dX4_prepare_0 : decode cX4_prepare 0 = .ok (.aload_n 0, 1) := by decide +kernel
theorem dX4_prepare_1 : decode cX4_prepare 1 = .ok (.getfield 16, 3) := by decide +kernel
theorem dX4_prepare_4 : decode cX4_prepare 4 = .ok (.aload_n 0, 1) := by decide +kernel
theorem dX4_prepare_5 : decode cX4_prepare 5 = .ok (.getfield 80, 3) := by decide +kernel
theorem dX4_prepare_8 : decode cX4_prepare 8 = .ok (.aaload, 1) := by decide +kernel
theorem dX4_prepare_9 : decode cX4_prepare 9 = .ok (.aload_n 0, 1) := by decide +kernel
theorem dX4_prepare_10 : decode cX4_prepare 10 = .ok (.getfield 10, 3) := by decide +kernel
theorem dX4_prepare_13 : decode cX4_prepare 13 = .ok (.invokevirtual 84, 3) := by decide +kernel
theorem dX4_prepare_16 : decode cX4_prepare 16 = .ok (.return_, 1) := by decide +kernel
set_option maxRecDepth 20000 in
theorem ggX4_finish_X4_dropOldest : GoodIn wsX4_finish wsX4_dropOldest := goodIn_r _ [6, 7, 8, 9, 10, 11, 12, 13] (by decide +kernel) (by decide +kernel)
set_option maxRecDepth 20000 in
theorem gX4_finish_X4_dropOldest : GoodIn wsX4_finish (wsV RX4 205 RX4 yX4_dropOldest wsX4_dropOldest) := goodIn_app (goodIn_of _ (by decide +kernel)) ggX4_finish_X4_dropOldest
theorem dX4_finish_0 : decode cX4_finish 0 = .ok (.iload_n 1, 1) := by decide +kernel
theorem dX4_finish_1 : decode cX4_finish 1 = .ok (.ifCond .lt 28, 3) := by decide +kernel
theorem dX4_finish_4 : decode cX4_finish 4 = .ok (.aload_n 0, 1) := by decide +kernel
theorem dX4_finish_5 : decode cX4_finish 5 = .ok (.getfield 80, 3) := by decide +kernel
theorem dX4_finish_8 : decode cX4_finish 8 = .ok (.iconst 5, 1) := by decide +kernel
theorem dX4_finish_9 : decode cX4_finish 9 = .ok (.if_icmp .ge 16, 3) := by decide +kernel
theorem dX4_finish_12 : decode cX4_finish 12 = .ok (.aload_n 0, 1) := by decide +kernel
theorem dX4_finish_13 : decode cX4_finish 13 = .ok (.dup, 1) := by decide +kernel
theorem dX4_finish_14 : decode cX4_finish 14 = .ok (.getfield 80, 3) := by decide +kernel
theorem dX4_finish_17 : decode cX4_finish 17 = .ok (.iconst 1, 1) := by decide +kernel
theorem dX4_finish_18 : decode cX4_finish 18 = .ok (.iadd, 1) := by decide +kernel
theorem dX4_finish_19 : decode cX4_finish 19 = .ok (.putfield 80, 3) := by decide +kernel
theorem dX4_finish_22 : decode cX4_finish 22 = .ok (.goto 7, 3) := by decide +kernel
theorem dX4_finish_25 : decode cX4_finish 25 = .ok (.aload_n 0, 1) := by decide +kernel
theorem dX4_finish_26 : decode cX4_finish 26 = .ok (.invokevirtual 205, 3) := by decide +kernel
theorem dX4_finish_29 : decode cX4_finish 29 = .ok (.iload_n 1, 1) := by decide +kernel
theorem dX4_finish_30 : decode cX4_finish 30 = .ok (.ireturn, 1) := by decide +kernel
theorem dX4_dropOldest_0 : decode cX4_dropOldest 0 = .ok (.aload_n 0, 1) := by decide +kernel
theorem dX4_dropOldest_1 : decode cX4_dropOldest 1 = .ok (.getfield 16, 3) := by decide +kernel
theorem dX4_dropOldest_4 : decode cX4_dropOldest 4 = .ok (.iconst 0, 1) := by decide +kernel
theorem dX4_dropOldest_5 : decode cX4_dropOldest 5 = .ok (.aaload, 1) := by decide +kernel
theorem dX4_dropOldest_6 : decode cX4_dropOldest 6 = .ok (.astore_n 1, 1) := by decide +kernel
theorem dX4_dropOldest_7 : decode cX4_dropOldest 7 = .ok (.iconst 0, 1) := by decide +kernel
theorem dX4_dropOldest_8 : decode cX4_dropOldest 8 = .ok (.istore_n 2, 1) := by decide +kernel
theorem dX4_dropOldest_9 : decode cX4_dropOldest 9 = .ok (.iload_n 2, 1) := by decide +kernel
theorem dX4_dropOldest_10 : decode cX4_dropOldest 10 = .ok (.iconst 5, 1) := by decide +kernel
theorem dX4_dropOldest_11 : decode cX4_dropOldest 11 = .ok (.if_icmp .ge 23, 3) := by decide +kernel
theorem dX4_dropOldest_14 : decode cX4_dropOldest 14 = .ok (.aload_n 0, 1) := by decide +kernel
theorem dX4_dropOldest_15 : decode cX4_dropOldest 15 = .ok (.getfield 16, 3) := by decide +kernel
theorem dX4_dropOldest_18 : decode cX4_dropOldest 18 = .ok (.iload_n 2, 1) := by decide +kernel
theorem dX4_dropOldest_19 : decode cX4_dropOldest 19 = .ok (.aload_n 0, 1) := by decide +kernel
theorem dX4_dropOldest_20 : decode cX4_dropOldest 20 = .ok (.getfield 16, 3) := by decide +kernel
theorem dX4_dropOldest_23 : decode cX4_dropOldest 23 = .ok (.iload_n 2, 1) := by decide +kernel
theorem dX4_dropOldest_24 : decode cX4_dropOldest 24 = .ok (.iconst 1, 1) := by decide +kernel
theorem dX4_dropOldest_25 : decode cX4_dropOldest 25 = .ok (.iadd, 1) := by decide +kernel
theorem dX4_dropOldest_26 : decode cX4_dropOldest 26 = .ok (.aaload, 1) := by decide +kernel
theorem dX4_dropOldest_27 : decode cX4_dropOldest 27 = .ok (.aastore, 1) := by decide +kernel
theorem dX4_dropOldest_28 : decode cX4_dropOldest 28 = .ok (.iinc 2 1, 3) := by decide +kernel
theorem dX4_dropOldest_31 : decode cX4_dropOldest 31 = .ok (.goto (-22), 3) := by decide +kernel
theorem dX4_dropOldest_34 : decode cX4_dropOldest 34 = .ok (.aload_n 0, 1) := by decide +kernel
theorem dX4_dropOldest_35 : decode cX4_dropOldest 35 = .ok (.getfield 16, 3) := by decide +kernel
theorem dX4_dropOldest_38 : decode cX4_dropOldest 38 = .ok (.iconst 5, 1) := by decide +kernel
theorem dX4_dropOldest_39 : decode cX4_dropOldest 39 = .ok (.aload_n 1, 1) := by decide +kernel
theorem dX4_dropOldest_40 : decode cX4_dropOldest 40 = .ok (.aastore, 1) := by decide +kernel
theorem dX4_dropOldest_41 : decode cX4_dropOldest 41 = .ok (.return_, 1) := by decide +kernel
theorem dX4_settingCount_0 : decode cX4_settingCount 0 = .ok (.iload_n 1, 1) := by decide +kernel
theorem dX4_settingCount_1 : decode cX4_settingCount 1 = .ok (.bipush 13, 2) := by decide +kernel
theorem dX4_settingCount_3 : decode cX4_settingCount 3 = .ok (.if_icmp .lt 9, 3) := by decide +kernel
theorem dX4_settingCount_6 : decode cX4_settingCount 6 = .ok (.iload_n 1, 1) := by decide +kernel
theorem dX4_settingCount_7 : decode cX4_settingCount 7 = .ok (.bipush 19, 2) := by decide +kernel
theorem dX4_settingCount_9 : decode cX4_settingCount 9 = .ok (.if_icmp .lt 5, 3) := by decide +kernel
theorem dX4_settingCount_12 : decode cX4_settingCount 12 = .ok (.iconst (-1), 1) := by decide +kernel
theorem dX4_settingCount_13 : decode cX4_settingCount 13 = .ok (.ireturn, 1) := by decide +kernel
theorem dX4_settingCount_14 : decode cX4_settingCount 14 = .ok (.aload_n 0, 1) := by decide +kernel
theorem dX4_settingCount_15 : decode cX4_settingCount 15 = .ok (.getfield 10, 3) := by decide +kernel
theorem dX4_settingCount_18 : decode cX4_settingCount 18 = .ok (.getfield 41, 3) := by decide +kernel
theorem dX4_settingCount_21 : decode cX4_settingCount 21 = .ok (.getfield 99, 3) := by decide +kernel
theorem dX4_settingCount_24 : decode cX4_settingCount 24 = .ok (.iload_n 1, 1) := by decide +kernel
theorem dX4_settingCount_25 : decode cX4_settingCount 25 = .ok (.bipush 13, 2) := by decide +kernel
theorem dX4_settingCount_27 : decode cX4_settingCount 27 = .ok (.isub, 1) := by decide +kernel
theorem dX4_settingCount_28 : decode cX4_settingCount 28 = .ok (.iaload, 1) := by decide +kernel
theorem dX4_settingCount_29 : decode cX4_settingCount 29 = .ok (.ireturn, 1) := by decide +kernel
theorem dX4_isSpot_0 : decode cX4_isSpot 0 = .ok (.iload_n 0, 1) := by decide +kernel
theorem dX4_isSpot_1 : decode cX4_isSpot 1 = .ok (.ifCond .lt 13, 3) := by decide +kernel
theorem dX4_isSpot_4 : decode cX4_isSpot 4 = .ok (.iload_n 0, 1) := by decide +kernel
theorem dX4_isSpot_5 : decode cX4_isSpot 5 = .ok (.bipush 64, 2) := by decide +kernel
theorem dX4_isSpot_7 : decode cX4_isSpot 7 = .ok (.if_icmp .ge 7, 3) := by decide +kernel
theorem dX4_isSpot_10 : decode cX4_isSpot 10 = .ok (.iconst 1, 1) := by decide +kernel
theorem dX4_isSpot_11 : decode cX4_isSpot 11 = .ok (.goto 4, 3) := by decide +kernel
theorem dX4_isSpot_14 : decode cX4_isSpot 14 = .ok (.iconst 0, 1) := by decide +kernel
theorem dX4_isSpot_15 : decode cX4_isSpot 15 = .ok (.ireturn, 1) := by decide +kernel
theorem dX4_isPhosphor_0 : decode cX4_isPhosphor 0 = .ok (.iload_n 0, 1) := by decide +kernel
theorem dX4_isPhosphor_1 : decode cX4_isPhosphor 1 = .ok (.ifCond .lt 12, 3) := by decide +kernel
theorem dX4_isPhosphor_4 : decode cX4_isPhosphor 4 = .ok (.iload_n 0, 1) := by decide +kernel
theorem dX4_isPhosphor_5 : decode cX4_isPhosphor 5 = .ok (.iconst 4, 1) := by decide +kernel
theorem dX4_isPhosphor_6 : decode cX4_isPhosphor 6 = .ok (.if_icmp .ge 7, 3) := by decide +kernel
theorem dX4_isPhosphor_9 : decode cX4_isPhosphor 9 = .ok (.iconst 1, 1) := by decide +kernel
theorem dX4_isPhosphor_10 : decode cX4_isPhosphor 10 = .ok (.goto 4, 3) := by decide +kernel
theorem dX4_isPhosphor_13 : decode cX4_isPhosphor 13 = .ok (.iconst 0, 1) := by decide +kernel
theorem dX4_isPhosphor_14 : decode cX4_isPhosphor 14 = .ok (.ireturn, 1) := by decide +kernel
theorem dX4_way_0 : decode cX4_way 0 = .ok (.iload_n 0, 1) := by decide +kernel
theorem dX4_way_1 : decode cX4_way 1 = .ok (.bipush 8, 2) := by decide +kernel
theorem dX4_way_3 : decode cX4_way 3 = .ok (.idiv, 1) := by decide +kernel
theorem dX4_way_4 : decode cX4_way 4 = .ok (.iload_n 1, 1) := by decide +kernel
theorem dX4_way_5 : decode cX4_way 5 = .ok (.bipush 8, 2) := by decide +kernel
theorem dX4_way_7 : decode cX4_way 7 = .ok (.idiv, 1) := by decide +kernel
theorem dX4_way_8 : decode cX4_way 8 = .ok (.isub, 1) := by decide +kernel
theorem dX4_way_9 : decode cX4_way 9 = .ok (.invokestatic 208, 3) := by decide +kernel
theorem dX4_way_12 : decode cX4_way 12 = .ok (.iload_n 0, 1) := by decide +kernel
theorem dX4_way_13 : decode cX4_way 13 = .ok (.bipush 8, 2) := by decide +kernel
theorem dX4_way_15 : decode cX4_way 15 = .ok (.irem, 1) := by decide +kernel
theorem dX4_way_16 : decode cX4_way 16 = .ok (.iload_n 1, 1) := by decide +kernel
theorem dX4_way_17 : decode cX4_way 17 = .ok (.bipush 8, 2) := by decide +kernel
theorem dX4_way_19 : decode cX4_way 19 = .ok (.irem, 1) := by decide +kernel
theorem dX4_way_20 : decode cX4_way 20 = .ok (.isub, 1) := by decide +kernel
theorem dX4_way_21 : decode cX4_way 21 = .ok (.invokestatic 208, 3) := by decide +kernel
theorem dX4_way_24 : decode cX4_way 24 = .ok (.iadd, 1) := by decide +kernel
theorem dX4_way_25 : decode cX4_way 25 = .ok (.ireturn, 1) := by decide +kernel
theorem dX4_bit_0 : decode cX4_bit 0 = .ok (.lload_n 0, 1) := by decide +kernel
theorem dX4_bit_1 : decode cX4_bit 1 = .ok (.iload_n 2, 1) := by decide +kernel
theorem dX4_bit_2 : decode cX4_bit 2 = .ok (.lushr, 1) := by decide +kernel
theorem dX4_bit_3 : decode cX4_bit 3 = .ok (.l2i, 1) := by decide +kernel
theorem dX4_bit_4 : decode cX4_bit 4 = .ok (.iconst 1, 1) := by decide +kernel
theorem dX4_bit_5 : decode cX4_bit 5 = .ok (.iand, 1) := by decide +kernel
theorem dX4_bit_6 : decode cX4_bit 6 = .ok (.ireturn, 1) := by decide +kernel
set_option maxRecDepth 20000 in
theorem ggX4_firstOf_X4_bit : GoodIn wsX4_firstOf wsX4_bit := goodIn_r _ [4] (by decide +kernel) (by decide +kernel)
set_option maxRecDepth 20000 in
theorem gX4_firstOf_X4_bit : GoodIn wsX4_firstOf (va_wsS RX4 151 yX4_bit wsX4_bit) := goodIn_app (goodIn_of _ (by decide +kernel)) ggX4_firstOf_X4_bit
theorem dX4_firstOf_0 : decode cX4_firstOf 0 = .ok (.iconst 0, 1) := by decide +kernel
theorem dX4_firstOf_1 : decode cX4_firstOf 1 = .ok (.istore_n 2, 1) := by decide +kernel
theorem dX4_firstOf_2 : decode cX4_firstOf 2 = .ok (.iload_n 2, 1) := by decide +kernel
theorem dX4_firstOf_3 : decode cX4_firstOf 3 = .ok (.bipush 64, 2) := by decide +kernel
theorem dX4_firstOf_5 : decode cX4_firstOf 5 = .ok (.if_icmp .ge 20, 3) := by decide +kernel
theorem dX4_firstOf_8 : decode cX4_firstOf 8 = .ok (.lload_n 0, 1) := by decide +kernel
theorem dX4_firstOf_9 : decode cX4_firstOf 9 = .ok (.iload_n 2, 1) := by decide +kernel
theorem dX4_firstOf_10 : decode cX4_firstOf 10 = .ok (.invokestatic 151, 3) := by decide +kernel
theorem dX4_firstOf_13 : decode cX4_firstOf 13 = .ok (.iconst 1, 1) := by decide +kernel
theorem dX4_firstOf_14 : decode cX4_firstOf 14 = .ok (.if_icmp .ne 5, 3) := by decide +kernel
theorem dX4_firstOf_17 : decode cX4_firstOf 17 = .ok (.iload_n 2, 1) := by decide +kernel
theorem dX4_firstOf_18 : decode cX4_firstOf 18 = .ok (.ireturn, 1) := by decide +kernel
theorem dX4_firstOf_19 : decode cX4_firstOf 19 = .ok (.iinc 2 1, 3) := by decide +kernel
theorem dX4_firstOf_22 : decode cX4_firstOf 22 = .ok (.goto (-20), 3) := by decide +kernel
theorem dX4_firstOf_25 : decode cX4_firstOf 25 = .ok (.bipush (-9), 2) := by decide +kernel
theorem dX4_firstOf_27 : decode cX4_firstOf 27 = .ok (.ireturn, 1) := by decide +kernel
theorem dX4_glow_0 : decode cX4_glow 0 = .ok (.iload_n 0, 1) := by decide +kernel
theorem dX4_glow_1 : decode cX4_glow 1 = .ok (.tableswitch 67 0 2 #[27, 39, 50], 27) := by decide +kernel
theorem dX4_glow_28 : decode cX4_glow 28 = .ok (.iconst 0, 1) := by decide +kernel
theorem dX4_glow_29 : decode cX4_glow 29 = .ok (.bipush 100, 2) := by decide +kernel
theorem dX4_glow_31 : decode cX4_glow 31 = .ok (.bipush 20, 2) := by decide +kernel
theorem dX4_glow_33 : decode cX4_glow 33 = .ok (.iload_n 1, 1) := by decide +kernel
theorem dX4_glow_34 : decode cX4_glow 34 = .ok (.imul, 1) := by decide +kernel
theorem dX4_glow_35 : decode cX4_glow 35 = .ok (.isub, 1) := by decide +kernel
theorem dX4_glow_36 : decode cX4_glow 36 = .ok (.invokestatic 200, 3) := by decide +kernel
theorem dX4_glow_39 : decode cX4_glow 39 = .ok (.ireturn, 1) := by decide +kernel
theorem dX4_glow_40 : decode cX4_glow 40 = .ok (.iconst 0, 1) := by decide +kernel
theorem dX4_glow_41 : decode cX4_glow 41 = .ok (.bipush 100, 2) := by decide +kernel
theorem dX4_glow_43 : decode cX4_glow 43 = .ok (.iconst 4, 1) := by decide +kernel
theorem dX4_glow_44 : decode cX4_glow 44 = .ok (.iload_n 1, 1) := by decide +kernel
theorem dX4_glow_45 : decode cX4_glow 45 = .ok (.imul, 1) := by decide +kernel
theorem dX4_glow_46 : decode cX4_glow 46 = .ok (.isub, 1) := by decide +kernel
theorem dX4_glow_47 : decode cX4_glow 47 = .ok (.invokestatic 200, 3) := by decide +kernel
theorem dX4_glow_50 : decode cX4_glow 50 = .ok (.ireturn, 1) := by decide +kernel
theorem dX4_glow_51 : decode cX4_glow 51 = .ok (.iload_n 1, 1) := by decide +kernel
theorem dX4_glow_52 : decode cX4_glow 52 = .ok (.bipush 35, 2) := by decide +kernel
theorem dX4_glow_54 : decode cX4_glow 54 = .ok (.if_icmp .ge 12, 3) := by decide +kernel
theorem dX4_glow_57 : decode cX4_glow 57 = .ok (.bipush 100, 2) := by decide +kernel
theorem dX4_glow_59 : decode cX4_glow 59 = .ok (.iload_n 1, 1) := by decide +kernel
theorem dX4_glow_60 : decode cX4_glow 60 = .ok (.iconst 5, 1) := by decide +kernel
theorem dX4_glow_61 : decode cX4_glow 61 = .ok (.idiv, 1) := by decide +kernel
theorem dX4_glow_62 : decode cX4_glow 62 = .ok (.ishr, 1) := by decide +kernel
theorem dX4_glow_63 : decode cX4_glow 63 = .ok (.goto 4, 3) := by decide +kernel
theorem dX4_glow_66 : decode cX4_glow 66 = .ok (.iconst 0, 1) := by decide +kernel
theorem dX4_glow_67 : decode cX4_glow 67 = .ok (.ireturn, 1) := by decide +kernel
theorem dX4_glow_68 : decode cX4_glow 68 = .ok (.iload_n 1, 1) := by decide +kernel
theorem dX4_glow_69 : decode cX4_glow 69 = .ok (.bipush 8, 2) := by decide +kernel
theorem dX4_glow_71 : decode cX4_glow 71 = .ok (.if_icmp .ge 8, 3) := by decide +kernel
theorem dX4_glow_74 : decode cX4_glow 74 = .ok (.bipush 100, 2) := by decide +kernel
theorem dX4_glow_76 : decode cX4_glow 76 = .ok (.goto 4, 3) := by decide +kernel
theorem dX4_glow_79 : decode cX4_glow 79 = .ok (.iconst 0, 1) := by decide +kernel
theorem dX4_glow_80 : decode cX4_glow 80 = .ok (.ireturn, 1) := by decide +kernel
set_option maxRecDepth 20000 in
theorem ggX4_ticksAbove_X4_glow : GoodIn wsX4_ticksAbove wsX4_glow := goodIn_r _ [4, 5, 6, 7, 8] (by decide +kernel) (by decide +kernel)
set_option maxRecDepth 20000 in
theorem gX4_ticksAbove_X4_glow : GoodIn wsX4_ticksAbove (va_wsS RX4 211 yX4_glow wsX4_glow) := goodIn_app (goodIn_of _ (by decide +kernel)) ggX4_ticksAbove_X4_glow
theorem dX4_ticksAbove_0 : decode cX4_ticksAbove 0 = .ok (.iconst 0, 1) := by decide +kernel
theorem dX4_ticksAbove_1 : decode cX4_ticksAbove 1 = .ok (.istore_n 2, 1) := by decide +kernel
theorem dX4_ticksAbove_2 : decode cX4_ticksAbove 2 = .ok (.iload_n 2, 1) := by decide +kernel
theorem dX4_ticksAbove_3 : decode cX4_ticksAbove 3 = .ok (.sipush 200, 3) := by decide +kernel
theorem dX4_ticksAbove_6 : decode cX4_ticksAbove 6 = .ok (.if_icmp .ge 18, 3) := by decide +kernel
theorem dX4_ticksAbove_9 : decode cX4_ticksAbove 9 = .ok (.iload_n 0, 1) := by decide +kernel
theorem dX4_ticksAbove_10 : decode cX4_ticksAbove 10 = .ok (.iload_n 2, 1) := by decide +kernel
theorem dX4_ticksAbove_11 : decode cX4_ticksAbove 11 = .ok (.invokestatic 211, 3) := by decide +kernel
theorem dX4_ticksAbove_14 : decode cX4_ticksAbove 14 = .ok (.iload_n 1, 1) := by decide +kernel
theorem dX4_ticksAbove_15 : decode cX4_ticksAbove 15 = .ok (.if_icmp .lt 9, 3) := by decide +kernel
theorem dX4_ticksAbove_18 : decode cX4_ticksAbove 18 = .ok (.iinc 2 1, 3) := by decide +kernel
theorem dX4_ticksAbove_21 : decode cX4_ticksAbove 21 = .ok (.goto (-19), 3) := by decide +kernel
theorem dX4_ticksAbove_24 : decode cX4_ticksAbove 24 = .ok (.iload_n 2, 1) := by decide +kernel
theorem dX4_ticksAbove_25 : decode cX4_ticksAbove 25 = .ok (.ireturn, 1) := by decide +kernel
theorem dJ13_bitCount_95d88_0 : decode cJ13_bitCount_95d88 0 = .ok (.lload_n 0, 1) := by decide +kernel
theorem dJ13_bitCount_95d88_1 : decode cJ13_bitCount_95d88 1 = .ok (.lload_n 0, 1) := by decide +kernel
theorem dJ13_bitCount_95d88_2 : decode cJ13_bitCount_95d88 2 = .ok (.iconst 1, 1) := by decide +kernel
theorem dJ13_bitCount_95d88_3 : decode cJ13_bitCount_95d88 3 = .ok (.lushr, 1) := by decide +kernel
theorem dJ13_bitCount_95d88_4 : decode cJ13_bitCount_95d88 4 = .ok (.ldc2_w 314, 3) := by decide +kernel
theorem dJ13_bitCount_95d88_7 : decode cJ13_bitCount_95d88 7 = .ok (.land, 1) := by decide +kernel
theorem dJ13_bitCount_95d88_8 : decode cJ13_bitCount_95d88 8 = .ok (.lsub, 1) := by decide +kernel
theorem dJ13_bitCount_95d88_9 : decode cJ13_bitCount_95d88 9 = .ok (.lstore_n 0, 1) := by decide +kernel
theorem dJ13_bitCount_95d88_10 : decode cJ13_bitCount_95d88 10 = .ok (.lload_n 0, 1) := by decide +kernel
theorem dJ13_bitCount_95d88_11 : decode cJ13_bitCount_95d88 11 = .ok (.ldc2_w 316, 3) := by decide +kernel
theorem dJ13_bitCount_95d88_14 : decode cJ13_bitCount_95d88 14 = .ok (.land, 1) := by decide +kernel
theorem dJ13_bitCount_95d88_15 : decode cJ13_bitCount_95d88 15 = .ok (.lload_n 0, 1) := by decide +kernel
theorem dJ13_bitCount_95d88_16 : decode cJ13_bitCount_95d88 16 = .ok (.iconst 2, 1) := by decide +kernel
theorem dJ13_bitCount_95d88_17 : decode cJ13_bitCount_95d88 17 = .ok (.lushr, 1) := by decide +kernel
theorem dJ13_bitCount_95d88_18 : decode cJ13_bitCount_95d88 18 = .ok (.ldc2_w 316, 3) := by decide +kernel
theorem dJ13_bitCount_95d88_21 : decode cJ13_bitCount_95d88 21 = .ok (.land, 1) := by decide +kernel
theorem dJ13_bitCount_95d88_22 : decode cJ13_bitCount_95d88 22 = .ok (.ladd, 1) := by decide +kernel
theorem dJ13_bitCount_95d88_23 : decode cJ13_bitCount_95d88 23 = .ok (.lstore_n 0, 1) := by decide +kernel
theorem dJ13_bitCount_95d88_24 : decode cJ13_bitCount_95d88 24 = .ok (.lload_n 0, 1) := by decide +kernel
theorem dJ13_bitCount_95d88_25 : decode cJ13_bitCount_95d88 25 = .ok (.lload_n 0, 1) := by decide +kernel
theorem dJ13_bitCount_95d88_26 : decode cJ13_bitCount_95d88 26 = .ok (.iconst 4, 1) := by decide +kernel
theorem dJ13_bitCount_95d88_27 : decode cJ13_bitCount_95d88 27 = .ok (.lushr, 1) := by decide +kernel
theorem dJ13_bitCount_95d88_28 : decode cJ13_bitCount_95d88 28 = .ok (.ladd, 1) := by decide +kernel
theorem dJ13_bitCount_95d88_29 : decode cJ13_bitCount_95d88 29 = .ok (.ldc2_w 318, 3) := by decide +kernel
theorem dJ13_bitCount_95d88_32 : decode cJ13_bitCount_95d88 32 = .ok (.land, 1) := by decide +kernel
theorem dJ13_bitCount_95d88_33 : decode cJ13_bitCount_95d88 33 = .ok (.lstore_n 0, 1) := by decide +kernel
theorem dJ13_bitCount_95d88_34 : decode cJ13_bitCount_95d88 34 = .ok (.lload_n 0, 1) := by decide +kernel
theorem dJ13_bitCount_95d88_35 : decode cJ13_bitCount_95d88 35 = .ok (.lload_n 0, 1) := by decide +kernel
theorem dJ13_bitCount_95d88_36 : decode cJ13_bitCount_95d88 36 = .ok (.bipush 8, 2) := by decide +kernel
theorem dJ13_bitCount_95d88_38 : decode cJ13_bitCount_95d88 38 = .ok (.lushr, 1) := by decide +kernel
theorem dJ13_bitCount_95d88_39 : decode cJ13_bitCount_95d88 39 = .ok (.ladd, 1) := by decide +kernel
theorem dJ13_bitCount_95d88_40 : decode cJ13_bitCount_95d88 40 = .ok (.lstore_n 0, 1) := by decide +kernel
theorem dJ13_bitCount_95d88_41 : decode cJ13_bitCount_95d88 41 = .ok (.lload_n 0, 1) := by decide +kernel
theorem dJ13_bitCount_95d88_42 : decode cJ13_bitCount_95d88 42 = .ok (.lload_n 0, 1) := by decide +kernel
theorem dJ13_bitCount_95d88_43 : decode cJ13_bitCount_95d88 43 = .ok (.bipush 16, 2) := by decide +kernel
theorem dJ13_bitCount_95d88_45 : decode cJ13_bitCount_95d88 45 = .ok (.lushr, 1) := by decide +kernel
theorem dJ13_bitCount_95d88_46 : decode cJ13_bitCount_95d88 46 = .ok (.ladd, 1) := by decide +kernel
theorem dJ13_bitCount_95d88_47 : decode cJ13_bitCount_95d88 47 = .ok (.lstore_n 0, 1) := by decide +kernel
theorem dJ13_bitCount_95d88_48 : decode cJ13_bitCount_95d88 48 = .ok (.lload_n 0, 1) := by decide +kernel
theorem dJ13_bitCount_95d88_49 : decode cJ13_bitCount_95d88 49 = .ok (.lload_n 0, 1) := by decide +kernel
theorem dJ13_bitCount_95d88_50 : decode cJ13_bitCount_95d88 50 = .ok (.bipush 32, 2) := by decide +kernel
theorem dJ13_bitCount_95d88_52 : decode cJ13_bitCount_95d88 52 = .ok (.lushr, 1) := by decide +kernel
theorem dJ13_bitCount_95d88_53 : decode cJ13_bitCount_95d88 53 = .ok (.ladd, 1) := by decide +kernel
theorem dJ13_bitCount_95d88_54 : decode cJ13_bitCount_95d88 54 = .ok (.lstore_n 0, 1) := by decide +kernel
theorem dJ13_bitCount_95d88_55 : decode cJ13_bitCount_95d88 55 = .ok (.lload_n 0, 1) := by decide +kernel
theorem dJ13_bitCount_95d88_56 : decode cJ13_bitCount_95d88 56 = .ok (.l2i, 1) := by decide +kernel
theorem dJ13_bitCount_95d88_57 : decode cJ13_bitCount_95d88 57 = .ok (.bipush 127, 2) := by decide +kernel
theorem dJ13_bitCount_95d88_59 : decode cJ13_bitCount_95d88 59 = .ok (.iand, 1) := by decide +kernel
theorem dJ13_bitCount_95d88_60 : decode cJ13_bitCount_95d88 60 = .ok (.ireturn, 1) := by decide +kernel
theorem dJ9_abs_0f7a4_0 : decode cJ9_abs_0f7a4 0 = .ok (.iload_n 0, 1) := by decide +kernel
theorem dJ9_abs_0f7a4_1 : decode cJ9_abs_0f7a4 1 = .ok (.ifCond .ge 8, 3) := by decide +kernel
theorem dJ9_abs_0f7a4_4 : decode cJ9_abs_0f7a4 4 = .ok (.iload_n 0, 1) := by decide +kernel
theorem dJ9_abs_0f7a4_5 : decode cJ9_abs_0f7a4 5 = .ok (.ineg, 1) := by decide +kernel
theorem dJ9_abs_0f7a4_6 : decode cJ9_abs_0f7a4 6 = .ok (.goto 4, 3) := by decide +kernel
theorem dJ9_abs_0f7a4_9 : decode cJ9_abs_0f7a4 9 = .ok (.iload_n 0, 1) := by decide +kernel
theorem dJ9_abs_0f7a4_10 : decode cJ9_abs_0f7a4 10 = .ok (.ireturn, 1) := by decide +kernel
theorem dJ9_max_7cf53_0 : decode cJ9_max_7cf53 0 = .ok (.iload_n 0, 1) := by decide +kernel
theorem dJ9_max_7cf53_1 : decode cJ9_max_7cf53 1 = .ok (.iload_n 1, 1) := by decide +kernel
theorem dJ9_max_7cf53_2 : decode cJ9_max_7cf53 2 = .ok (.if_icmp .lt 7, 3) := by decide +kernel
theorem dJ9_max_7cf53_5 : decode cJ9_max_7cf53 5 = .ok (.iload_n 0, 1) := by decide +kernel
theorem dJ9_max_7cf53_6 : decode cJ9_max_7cf53 6 = .ok (.goto 4, 3) := by decide +kernel
theorem dJ9_max_7cf53_9 : decode cJ9_max_7cf53 9 = .ok (.iload_n 1, 1) := by decide +kernel
theorem dJ9_max_7cf53_10 : decode cJ9_max_7cf53 10 = .ok (.ireturn, 1) := by decide +kernel
theorem dJ9_min_7cf53_0 : decode cJ9_min_7cf53 0 = .ok (.iload_n 0, 1) := by decide +kernel
theorem dJ9_min_7cf53_1 : decode cJ9_min_7cf53 1 = .ok (.iload_n 1, 1) := by decide +kernel
theorem dJ9_min_7cf53_2 : decode cJ9_min_7cf53 2 = .ok (.if_icmp .gt 7, 3) := by decide +kernel
theorem dJ9_min_7cf53_5 : decode cJ9_min_7cf53 5 = .ok (.iload_n 0, 1) := by decide +kernel
theorem dJ9_min_7cf53_6 : decode cJ9_min_7cf53 6 = .ok (.goto 4, 3) := by decide +kernel
theorem dJ9_min_7cf53_9 : decode cJ9_min_7cf53 9 = .ok (.iload_n 1, 1) := by decide +kernel
theorem dJ9_min_7cf53_10 : decode cJ9_min_7cf53 10 = .ok (.ireturn, 1) := by decide +kernel
theorem dJ7_fill_53178_0 : decode cJ7_fill_53178 0 = .ok (.iconst 0, 1) := by decide +kernel
theorem dJ7_fill_53178_1 : decode cJ7_fill_53178 1 = .ok (.istore_n 2, 1) := by decide +kernel
theorem dJ7_fill_53178_2 : decode cJ7_fill_53178 2 = .ok (.aload_n 0, 1) := by decide +kernel
theorem dJ7_fill_53178_3 : decode cJ7_fill_53178 3 = .ok (.arraylength, 1) := by decide +kernel
theorem dJ7_fill_53178_4 : decode cJ7_fill_53178 4 = .ok (.istore_n 3, 1) := by decide +kernel
theorem dJ7_fill_53178_5 : decode cJ7_fill_53178 5 = .ok (.iload_n 2, 1) := by decide +kernel
theorem dJ7_fill_53178_6 : decode cJ7_fill_53178 6 = .ok (.iload_n 3, 1) := by decide +kernel
theorem dJ7_fill_53178_7 : decode cJ7_fill_53178 7 = .ok (.if_icmp .ge 13, 3) := by decide +kernel
theorem dJ7_fill_53178_10 : decode cJ7_fill_53178 10 = .ok (.aload_n 0, 1) := by decide +kernel
theorem dJ7_fill_53178_11 : decode cJ7_fill_53178 11 = .ok (.iload_n 2, 1) := by decide +kernel
theorem dJ7_fill_53178_12 : decode cJ7_fill_53178 12 = .ok (.iload_n 1, 1) := by decide +kernel
theorem dJ7_fill_53178_13 : decode cJ7_fill_53178 13 = .ok (.iastore, 1) := by decide +kernel
theorem dJ7_fill_53178_14 : decode cJ7_fill_53178 14 = .ok (.iinc 2 1, 3) := by decide +kernel
theorem dJ7_fill_53178_17 : decode cJ7_fill_53178 17 = .ok (.goto (-12), 3) := by decide +kernel
theorem dJ7_fill_53178_20 : decode cJ7_fill_53178 20 = .ok (.return_, 1) := by decide +kernel
theorem dL_cell_0 : decode cL_cell 0 = .ok (.iload_n 1, 1) := by decide +kernel
theorem dL_cell_1 : decode cL_cell 1 = .ok (.aload_n 0, 1) := by decide +kernel
theorem dL_cell_2 : decode cL_cell 2 = .ok (.arraylength, 1) := by decide +kernel
theorem dL_cell_3 : decode cL_cell 3 = .ok (.if_icmp .ge 9, 3) := by decide +kernel
theorem dL_cell_6 : decode cL_cell 6 = .ok (.aload_n 0, 1) := by decide +kernel
theorem dL_cell_7 : decode cL_cell 7 = .ok (.iload_n 1, 1) := by decide +kernel
theorem dL_cell_8 : decode cL_cell 8 = .ok (.iaload, 1) := by decide +kernel
theorem dL_cell_9 : decode cL_cell 9 = .ok (.goto 15, 3) := by decide +kernel
theorem dL_cell_12 : decode cL_cell 12 = .ok (.sipush 7919, 3) := by decide +kernel
theorem dL_cell_15 : decode cL_cell 15 = .ok (.iload_n 1, 1) := by decide +kernel
theorem dL_cell_16 : decode cL_cell 16 = .ok (.iconst 3, 1) := by decide +kernel
theorem dL_cell_17 : decode cL_cell 17 = .ok (.iadd, 1) := by decide +kernel
theorem dL_cell_18 : decode cL_cell 18 = .ok (.imul, 1) := by decide +kernel
theorem dL_cell_19 : decode cL_cell 19 = .ok (.iload_n 1, 1) := by decide +kernel
theorem dL_cell_20 : decode cL_cell 20 = .ok (.bipush 11, 2) := by decide +kernel
theorem dL_cell_22 : decode cL_cell 22 = .ok (.iadd, 1) := by decide +kernel
theorem dL_cell_23 : decode cL_cell 23 = .ok (.imul, 1) := by decide +kernel
theorem dL_cell_24 : decode cL_cell 24 = .ok (.ireturn, 1) := by decide +kernel
theorem dL_low_0 : decode cL_low 0 = .ok (.iload_n 0, 1) := by decide +kernel
theorem dL_low_1 : decode cL_low 1 = .ok (.ldc 7, 2) := by decide +kernel
theorem dL_low_3 : decode cL_low 3 = .ok (.iand, 1) := by decide +kernel
theorem dL_low_4 : decode cL_low 4 = .ok (.iload_n 1, 1) := by decide +kernel
theorem dL_low_5 : decode cL_low 5 = .ok (.irem, 1) := by decide +kernel
theorem dL_low_6 : decode cL_low 6 = .ok (.ireturn, 1) := by decide +kernel
set_option maxRecDepth 20000 in
theorem ggL_digest_X4_count : GoodIn wsL_digest wsX4_count := goodIn_r _ [7, 8, 9, 10, 11, 12, 13, 14, 15, 16, 17, 18, 19, 20, 21, 22, 23, 24, 25, 26, 27, 6, 28, 29, 30, 31, 32, 33, 34, 35, 36, 37, 38, 39, 40, 41, 42, 43, 44, 45, 46, 47, 48, 49, 50, 51, 52, 53, 54, 55, 56, 57, 58, 59, 60, 61, 62, 63, 64, 65, 66, 67, 68, 69, 70, 71, 72, 73, 74, 75, 76, 77, 78, 79, 80, 81, 82, 83, 84, 85, 86, 87, 88, 89, 90, 91, 92, 93, 94, 95, 96, 97, 98, 99, 100, 101, 102, 103, 104, 105, 106, 107, 108, 109, 110, 145, 146, 147, 148, 149, 150, 151, 152, 153, 154, 155, 156, 157, 158, 159, 160, 161, 162] (by decide +kernel) (by decide +kernel)
set_option maxRecDepth 20000 in
theorem gL_digest_X4_count : GoodIn wsL_digest (wsV RL 12 RX4 yX4_count wsX4_count) := goodIn_app (goodIn_of _ (by decide +kernel)) ggL_digest_X4_count
set_option maxRecDepth 20000 in
theorem ggL_digest_X4_at : GoodIn wsL_digest wsX4_at := goodIn_r _ [114, 8, 9, 11, 115, 145, 146, 147, 148, 149, 150, 151, 152, 153, 154, 155, 156, 157, 158] (by decide +kernel) (by decide +kernel)
set_option maxRecDepth 20000 in
theorem gL_digest_X4_at : GoodIn wsL_digest (wsV RL 18 RX4 yX4_at wsX4_at) := goodIn_app (goodIn_of _ (by decide +kernel)) ggL_digest_X4_at
set_option maxRecDepth 20000 in
theorem ggL_digest_X4_spot : GoodIn wsL_digest wsX4_spot := goodIn_r _ [119, 8, 9, 120, 12, 10, 121, 122, 6, 123, 124, 125, 126, 127, 57, 58, 18, 59, 20, 26, 128, 53, 54, 55, 21, 56, 22, 23, 24, 25, 27, 28, 29, 30, 31, 32, 40, 41, 42, 43, 44, 45, 46, 47, 48, 49, 50, 51, 52, 60, 61, 62, 63, 64, 65, 66, 67, 68, 69, 70, 71, 72, 73, 74, 75, 76, 77, 78, 79, 80, 81, 82, 83, 84, 129, 130, 131, 132, 133, 134, 135, 136, 137, 138, 139, 140, 141, 142, 143, 144, 145, 146, 147, 148, 149, 150, 151, 152, 153, 154, 155, 156, 157, 158] (by decide +kernel) (by decide +kernel)
set_option maxRecDepth 20000 in
theorem gL_digest_X4_spot : GoodIn wsL_digest (wsV RL 21 RX4 yX4_spot wsX4_spot) := goodIn_app (goodIn_of _ (by decide +kernel)) ggL_digest_X4_spot
theorem dL_digest_0 : decode cL_digest 0 = .ok (.ldc2_w 8, 3) := by decide +kernel
theorem dL_digest_3 : decode cL_digest 3 = .ok (.lstore_n 1, 1) := by decide +kernel
theorem dL_digest_4 : decode cL_digest 4 = .ok (.iconst 0, 1) := by decide +kernel
theorem dL_digest_5 : decode cL_digest 5 = .ok (.istore_n 3, 1) := by decide +kernel
theorem dL_digest_6 : decode cL_digest 6 = .ok (.iload_n 3, 1) := by decide +kernel
theorem dL_digest_7 : decode cL_digest 7 = .ok (.bipush 11, 2) := by decide +kernel
theorem dL_digest_9 : decode cL_digest 9 = .ok (.if_icmp .ge 22, 3) := by decide +kernel
theorem dL_digest_12 : decode cL_digest 12 = .ok (.ldc2_w 10, 3) := by decide +kernel
theorem dL_digest_15 : decode cL_digest 15 = .ok (.lload_n 1, 1) := by decide +kernel
theorem dL_digest_16 : decode cL_digest 16 = .ok (.lmul, 1) := by decide +kernel
theorem dL_digest_17 : decode cL_digest 17 = .ok (.aload_n 0, 1) := by decide +kernel
theorem dL_digest_18 : decode cL_digest 18 = .ok (.iload_n 3, 1) := by decide +kernel
theorem dL_digest_19 : decode cL_digest 19 = .ok (.invokevirtual 12, 3) := by decide +kernel
theorem dL_digest_22 : decode cL_digest 22 = .ok (.i2l, 1) := by decide +kernel
theorem dL_digest_23 : decode cL_digest 23 = .ok (.ladd, 1) := by decide +kernel
theorem dL_digest_24 : decode cL_digest 24 = .ok (.lstore_n 1, 1) := by decide +kernel
theorem dL_digest_25 : decode cL_digest 25 = .ok (.iinc 3 1, 3) := by decide +kernel
theorem dL_digest_28 : decode cL_digest 28 = .ok (.goto (-22), 3) := by decide +kernel
theorem dL_digest_31 : decode cL_digest 31 = .ok (.iconst 0, 1) := by decide +kernel
theorem dL_digest_32 : decode cL_digest 32 = .ok (.istore_n 3, 1) := by decide +kernel
theorem dL_digest_33 : decode cL_digest 33 = .ok (.iload_n 3, 1) := by decide +kernel
theorem dL_digest_34 : decode cL_digest 34 = .ok (.bipush 12, 2) := by decide +kernel
theorem dL_digest_36 : decode cL_digest 36 = .ok (.if_icmp .ge 22, 3) := by decide +kernel
theorem dL_digest_39 : decode cL_digest 39 = .ok (.ldc2_w 10, 3) := by decide +kernel
theorem dL_digest_42 : decode cL_digest 42 = .ok (.lload_n 1, 1) := by decide +kernel
theorem dL_digest_43 : decode cL_digest 43 = .ok (.lmul, 1) := by decide +kernel
theorem dL_digest_44 : decode cL_digest 44 = .ok (.aload_n 0, 1) := by decide +kernel
theorem dL_digest_45 : decode cL_digest 45 = .ok (.iload_n 3, 1) := by decide +kernel
theorem dL_digest_46 : decode cL_digest 46 = .ok (.invokevirtual 18, 3) := by decide +kernel
theorem dL_digest_49 : decode cL_digest 49 = .ok (.i2l, 1) := by decide +kernel
theorem dL_digest_50 : decode cL_digest 50 = .ok (.ladd, 1) := by decide +kernel
theorem dL_digest_51 : decode cL_digest 51 = .ok (.lstore_n 1, 1) := by decide +kernel
theorem dL_digest_52 : decode cL_digest 52 = .ok (.iinc 3 1, 3) := by decide +kernel
theorem dL_digest_55 : decode cL_digest 55 = .ok (.goto (-22), 3) := by decide +kernel
theorem dL_digest_58 : decode cL_digest 58 = .ok (.iconst 0, 1) := by decide +kernel
theorem dL_digest_59 : decode cL_digest 59 = .ok (.istore_n 3, 1) := by decide +kernel
theorem dL_digest_60 : decode cL_digest 60 = .ok (.iload_n 3, 1) := by decide +kernel
theorem dL_digest_61 : decode cL_digest 61 = .ok (.bipush 64, 2) := by decide +kernel
theorem dL_digest_63 : decode cL_digest 63 = .ok (.if_icmp .ge 44, 3) := by decide +kernel
theorem dL_digest_66 : decode cL_digest 66 = .ok (.ldc2_w 10, 3) := by decide +kernel
theorem dL_digest_69 : decode cL_digest 69 = .ok (.lload_n 1, 1) := by decide +kernel
theorem dL_digest_70 : decode cL_digest 70 = .ok (.lmul, 1) := by decide +kernel
theorem dL_digest_71 : decode cL_digest 71 = .ok (.aload_n 0, 1) := by decide +kernel
theorem dL_digest_72 : decode cL_digest 72 = .ok (.iload_n 3, 1) := by decide +kernel
theorem dL_digest_73 : decode cL_digest 73 = .ok (.iconst 0, 1) := by decide +kernel
theorem dL_digest_74 : decode cL_digest 74 = .ok (.invokevirtual 21, 3) := by decide +kernel
theorem dL_digest_77 : decode cL_digest 77 = .ok (.i2l, 1) := by decide +kernel
theorem dL_digest_78 : decode cL_digest 78 = .ok (.ladd, 1) := by decide +kernel
theorem dL_digest_79 : decode cL_digest 79 = .ok (.iconst 5, 1) := by decide +kernel
theorem dL_digest_80 : decode cL_digest 80 = .ok (.aload_n 0, 1) := by decide +kernel
theorem dL_digest_81 : decode cL_digest 81 = .ok (.iload_n 3, 1) := by decide +kernel
theorem dL_digest_82 : decode cL_digest 82 = .ok (.iconst 1, 1) := by decide +kernel
theorem dL_digest_83 : decode cL_digest 83 = .ok (.invokevirtual 21, 3) := by decide +kernel
theorem dL_digest_86 : decode cL_digest 86 = .ok (.imul, 1) := by decide +kernel
theorem dL_digest_87 : decode cL_digest 87 = .ok (.i2l, 1) := by decide +kernel
theorem dL_digest_88 : decode cL_digest 88 = .ok (.ladd, 1) := by decide +kernel
theorem dL_digest_89 : decode cL_digest 89 = .ok (.bipush 11, 2) := by decide +kernel
theorem dL_digest_91 : decode cL_digest 91 = .ok (.aload_n 0, 1) := by decide +kernel
theorem dL_digest_92 : decode cL_digest 92 = .ok (.iload_n 3, 1) := by decide +kernel
theorem dL_digest_93 : decode cL_digest 93 = .ok (.iconst 2, 1) := by decide +kernel
theorem dL_digest_94 : decode cL_digest 94 = .ok (.invokevirtual 21, 3) := by decide +kernel
theorem dL_digest_97 : decode cL_digest 97 = .ok (.imul, 1) := by decide +kernel
theorem dL_digest_98 : decode cL_digest 98 = .ok (.i2l, 1) := by decide +kernel
theorem dL_digest_99 : decode cL_digest 99 = .ok (.ladd, 1) := by decide +kernel
theorem dL_digest_100 : decode cL_digest 100 = .ok (.lstore_n 1, 1) := by decide +kernel
theorem dL_digest_101 : decode cL_digest 101 = .ok (.iinc 3 1, 3) := by decide +kernel
theorem dL_digest_104 : decode cL_digest 104 = .ok (.goto (-44), 3) := by decide +kernel
theorem dL_digest_107 : decode cL_digest 107 = .ok (.bipush 13, 2) := by decide +kernel
theorem dL_digest_109 : decode cL_digest 109 = .ok (.istore_n 3, 1) := by decide +kernel
theorem dL_digest_110 : decode cL_digest 110 = .ok (.iload_n 3, 1) := by decide +kernel
theorem dL_digest_111 : decode cL_digest 111 = .ok (.bipush 19, 2) := by decide +kernel
theorem dL_digest_113 : decode cL_digest 113 = .ok (.if_icmp .ge 22, 3) := by decide +kernel
theorem dL_digest_116 : decode cL_digest 116 = .ok (.ldc2_w 10, 3) := by decide +kernel
theorem dL_digest_119 : decode cL_digest 119 = .ok (.lload_n 1, 1) := by decide +kernel
theorem dL_digest_120 : decode cL_digest 120 = .ok (.lmul, 1) := by decide +kernel
theorem dL_digest_121 : decode cL_digest 121 = .ok (.aload_n 0, 1) := by decide +kernel
theorem dL_digest_122 : decode cL_digest 122 = .ok (.iload_n 3, 1) := by decide +kernel
theorem dL_digest_123 : decode cL_digest 123 = .ok (.invokevirtual 12, 3) := by decide +kernel
theorem dL_digest_126 : decode cL_digest 126 = .ok (.i2l, 1) := by decide +kernel
theorem dL_digest_127 : decode cL_digest 127 = .ok (.ladd, 1) := by decide +kernel
theorem dL_digest_128 : decode cL_digest 128 = .ok (.lstore_n 1, 1) := by decide +kernel
theorem dL_digest_129 : decode cL_digest 129 = .ok (.iinc 3 1, 3) := by decide +kernel
theorem dL_digest_132 : decode cL_digest 132 = .ok (.goto (-22), 3) := by decide +kernel
theorem dL_digest_135 : decode cL_digest 135 = .ok (.lload_n 1, 1) := by decide +kernel
theorem dL_digest_136 : decode cL_digest 136 = .ok (.lreturn, 1) := by decide +kernel
set_option maxRecDepth 20000 in
theorem ggL_act_L_low : GoodIn wsL_act wsL_low := goodIn_r _ [4, 5] (by decide +kernel) (by decide +kernel)
set_option maxRecDepth 20000 in
theorem gL_act_L_low : GoodIn wsL_act (va_wsS RL 25 yL_low wsL_low) := goodIn_app (goodIn_of _ (by decide +kernel)) ggL_act_L_low
set_option maxRecDepth 20000 in
theorem ggL_act_X4_count : GoodIn wsL_act wsX4_count := goodIn_r _ [10, 11, 12, 13, 14, 15, 16, 17, 18, 19, 20, 21, 22, 23, 24, 25, 26, 27, 28, 29, 30, 9, 31, 32, 33, 34, 35, 36, 37, 38, 39, 40, 41, 42, 43, 44, 45, 46, 47, 48, 49, 50, 51, 52, 53, 54, 55, 56, 57, 58, 59, 60, 61, 62, 63, 64, 65, 66, 67, 68, 69, 70, 71, 72, 73, 74, 75, 76, 77, 78, 79, 80, 81, 82, 83, 84, 85, 86, 87, 88, 89, 90, 91, 92, 93, 94, 95, 96, 97, 98, 99, 100, 101, 102, 103, 104, 105, 106, 107, 108, 109, 110, 111, 112, 113, 236, 237, 238, 239, 240, 241, 242, 243, 244, 245, 246, 247, 248, 249, 250, 251, 252, 253] (by decide +kernel) (by decide +kernel)
set_option maxRecDepth 20000 in
theorem gL_act_X4_count : GoodIn wsL_act (wsV RL 12 RX4 yX4_count wsX4_count) := goodIn_app (goodIn_of _ (by decide +kernel)) ggL_act_X4_count
set_option maxRecDepth 20000 in
theorem ggL_act_X4_at : GoodIn wsL_act wsX4_at := goodIn_r _ [117, 11, 12, 14, 118, 236, 237, 238, 239, 240, 241, 242, 243, 244, 245, 246, 247, 248, 249] (by decide +kernel) (by decide +kernel)
set_option maxRecDepth 20000 in
theorem gL_act_X4_at : GoodIn wsL_act (wsV RL 18 RX4 yX4_at wsX4_at) := goodIn_app (goodIn_of _ (by decide +kernel)) ggL_act_X4_at
set_option maxRecDepth 20000 in
theorem ggL_act_X4_set : GoodIn wsL_act wsX4_set := goodIn_r _ [122, 11, 12, 123, 124, 125, 9, 126, 127, 16, 128, 129, 130, 101, 131, 132, 133, 103, 134, 135, 136, 21, 137, 67, 138, 139, 140, 141, 29, 23, 92, 24, 142, 143, 144, 145, 146, 147, 148, 149, 150, 151, 152, 153, 154, 155, 236, 237, 238, 239, 240, 241, 242, 243, 244, 245, 246, 247, 248, 249] (by decide +kernel) (by decide +kernel)
set_option maxRecDepth 20000 in
theorem gL_act_X4_set : GoodIn wsL_act (wsV RL 30 RX4 yX4_set wsX4_set) := goodIn_app (goodIn_of _ (by decide +kernel)) ggL_act_X4_set
set_option maxRecDepth 20000 in
theorem ggL_act_X4_setPhosphor : GoodIn wsL_act wsX4_setPhosphor := goodIn_r _ [159, 11, 12, 123, 124, 125, 9, 126, 127, 16, 128, 129, 130, 101, 131, 132, 133, 103, 134, 135, 136, 21, 137, 67, 138, 139, 140, 141, 29, 23, 92, 24, 160, 161, 162, 163, 164, 165, 166, 167, 148, 149, 150, 151, 152, 153, 154, 155, 236, 237, 238, 239, 240, 241, 242, 243, 244, 245, 246, 247, 248, 249] (by decide +kernel) (by decide +kernel)
set_option maxRecDepth 20000 in
theorem gL_act_X4_setPhosphor : GoodIn wsL_act (wsV RL 33 RX4 yX4_setPhosphor wsX4_setPhosphor) := goodIn_app (goodIn_of _ (by decide +kernel)) ggL_act_X4_setPhosphor
end
section
set_option maxRecDepth 20000 in
theorem ggL_act_X4_darken : GoodIn wsL_act wsX4_darken := goodIn_r _ [171, 11, 12, 123, 124, 125, 9, 126, 127, 16, 128, 129, 130, 101, 131, 132, 133, 103, 134, 135, 136, 21, 137, 67, 138, 139, 140, 141, 29, 23, 92, 24, 172, 173, 174, 175, 164, 165, 59, 60, 61, 62, 148, 149, 150, 151, 152, 153, 154, 155, 236, 237, 238, 239, 240, 241, 242, 243, 244, 245, 246, 247, 248, 249] (by decide +kernel) (by decide +kernel)
set_option maxRecDepth 20000 in
theorem gL_act_X4_darken : GoodIn wsL_act (wsV RL 36 RX4 yX4_darken wsX4_darken) := goodIn_app (goodIn_of _ (by decide +kernel)) ggL_act_X4_darken
set_option maxRecDepth 20000 in
theorem ggL_act_X4_exchange : GoodIn wsL_act wsX4_exchange := goodIn_r _ [179, 11, 12, 123, 124, 125, 9, 126, 127, 16, 128, 129, 130, 101, 131, 132, 133, 103, 134, 135, 136, 21, 137, 67, 138, 139, 140, 141, 29, 23, 92, 24, 180, 181, 182, 183, 184, 185, 186, 187, 188, 19, 20, 22, 25, 26, 27, 28, 30, 31, 32, 33, 34, 35, 148, 149, 150, 151, 152, 153, 154, 155, 236, 237, 238, 239, 240, 241, 242, 243, 244, 245, 246, 247, 248, 249] (by decide +kernel) (by decide +kernel)
set_option maxRecDepth 20000 in
theorem gL_act_X4_exchange : GoodIn wsL_act (wsV RL 39 RX4 yX4_exchange wsX4_exchange) := goodIn_app (goodIn_of _ (by decide +kernel)) ggL_act_X4_exchange
set_option maxRecDepth 20000 in
theorem ggL_act_X4_sort : GoodIn wsL_act wsX4_sort := goodIn_r _ [192, 11, 12, 123, 124, 125, 9, 126, 127, 16, 128, 129, 130, 101, 131, 132, 133, 103, 134, 135, 136, 21, 137, 67, 138, 139, 140, 141, 29, 23, 92, 24, 193, 194, 195, 196, 197, 198, 199, 200, 201, 202, 30, 31, 32, 33, 34, 35, 203, 204, 205, 68, 69, 70, 71, 72, 184, 185, 186, 187, 188, 19, 20, 22, 25, 26, 27, 28, 148, 149, 150, 151, 152, 153, 154, 155, 236, 237, 238, 239, 240, 241, 242, 243, 244, 245, 246, 247, 248, 249] (by decide +kernel) (by decide +kernel)
set_option maxRecDepth 20000 in
theorem gL_act_X4_sort : GoodIn wsL_act (wsV RL 42 RX4 yX4_sort wsX4_sort) := goodIn_app (goodIn_of _ (by decide +kernel)) ggL_act_X4_sort
set_option maxRecDepth 20000 in
theorem ggL_act_X4_draw : GoodIn wsL_act wsX4_draw := goodIn_r _ [209, 11, 12, 123, 124, 125, 9, 126, 127, 16, 128, 129, 130, 101, 131, 132, 133, 103, 134, 135, 136, 21, 137, 67, 138, 139, 140, 141, 29, 23, 92, 24, 210, 211, 212, 213, 214, 164, 165, 215, 37, 38, 39, 40, 41, 42, 148, 149, 150, 151, 152, 153, 154, 155, 236, 237, 238, 239, 240, 241, 242, 243, 244, 245, 246, 247, 248, 249] (by decide +kernel) (by decide +kernel)
set_option maxRecDepth 20000 in
theorem gL_act_X4_draw : GoodIn wsL_act (wsV RL 45 RX4 yX4_draw wsX4_draw) := goodIn_app (goodIn_of _ (by decide +kernel)) ggL_act_X4_draw
set_option maxRecDepth 20000 in
theorem ggL_act_X4_take : GoodIn wsL_act wsX4_take := goodIn_r _ [219, 11, 123, 124, 125, 9, 126, 127, 16, 128, 129, 130, 101, 131, 132, 133, 103, 134, 135, 136, 21, 137, 67, 138, 139, 140, 141, 29, 23, 92, 24, 220, 221, 222, 223, 224, 225, 226, 227, 148, 149, 150, 151, 152, 153, 154, 155, 236, 237, 238, 239, 240, 241, 242, 243, 244, 245, 246, 247, 248, 249] (by decide +kernel) (by decide +kernel)
set_option maxRecDepth 20000 in
theorem gL_act_X4_take : GoodIn wsL_act (wsV RL 49 RX4 yX4_take wsX4_take) := goodIn_app (goodIn_of _ (by decide +kernel)) ggL_act_X4_take
set_option maxRecDepth 20000 in
theorem ggL_act_X4_light : GoodIn wsL_act wsX4_light := goodIn_r _ [231, 11, 12, 123, 124, 125, 9, 126, 127, 16, 128, 129, 130, 101, 131, 132, 133, 103, 134, 135, 136, 21, 137, 67, 138, 139, 140, 141, 29, 23, 92, 24, 232, 233, 234, 235, 164, 165, 59, 60, 61, 62, 148, 149, 150, 151, 152, 153, 154, 155, 236, 237, 238, 239, 240, 241, 242, 243, 244, 245, 246, 247, 248, 249] (by decide +kernel) (by decide +kernel)
set_option maxRecDepth 20000 in
theorem gL_act_X4_light : GoodIn wsL_act (wsV RL 52 RX4 yX4_light wsX4_light) := goodIn_app (goodIn_of _ (by decide +kernel)) ggL_act_X4_light
theorem dL_act_0 : decode cL_act 0 = .ok (.iload_n 1, 1) := by decide +kernel
theorem dL_act_1 : decode cL_act 1 = .ok (.iconst 4, 1) := by decide +kernel
theorem dL_act_2 : decode cL_act 2 = .ok (.ishr, 1) := by decide +kernel
theorem dL_act_3 : decode cL_act 3 = .ok (.bipush 64, 2) := by decide +kernel
theorem dL_act_5 : decode cL_act 5 = .ok (.invokestatic 25, 3) := by decide +kernel
theorem dL_act_8 : decode cL_act 8 = .ok (.istore_n 2, 1) := by decide +kernel
theorem dL_act_9 : decode cL_act 9 = .ok (.aload_n 0, 1) := by decide +kernel
theorem dL_act_10 : decode cL_act 10 = .ok (.iload_n 1, 1) := by decide +kernel
theorem dL_act_11 : decode cL_act 11 = .ok (.iconst 4, 1) := by decide +kernel
theorem dL_act_12 : decode cL_act 12 = .ok (.ishr, 1) := by decide +kernel
theorem dL_act_13 : decode cL_act 13 = .ok (.aload_n 0, 1) := by decide +kernel
theorem dL_act_14 : decode cL_act 14 = .ok (.iconst 0, 1) := by decide +kernel
theorem dL_act_15 : decode cL_act 15 = .ok (.invokevirtual 12, 3) := by decide +kernel
theorem dL_act_18 : decode cL_act 18 = .ok (.iconst 1, 1) := by decide +kernel
theorem dL_act_19 : decode cL_act 19 = .ok (.iadd, 1) := by decide +kernel
theorem dL_act_20 : decode cL_act 20 = .ok (.invokestatic 25, 3) := by decide +kernel
theorem dL_act_23 : decode cL_act 23 = .ok (.invokevirtual 18, 3) := by decide +kernel
theorem dL_act_26 : decode cL_act 26 = .ok (.istore_n 3, 1) := by decide +kernel
theorem dL_act_27 : decode cL_act 27 = .ok (.iload_n 3, 1) := by decide +kernel
theorem dL_act_28 : decode cL_act 28 = .ok (.ifCond .ge 7, 3) := by decide +kernel
theorem dL_act_31 : decode cL_act 31 = .ok (.iload_n 2, 1) := by decide +kernel
theorem dL_act_32 : decode cL_act 32 = .ok (.goto 4, 3) := by decide +kernel
theorem dL_act_35 : decode cL_act 35 = .ok (.iload_n 3, 1) := by decide +kernel
theorem dL_act_36 : decode cL_act 36 = .ok (.istore 4, 2) := by decide +kernel
theorem dL_act_38 : decode cL_act 38 = .ok (.iload_n 1, 1) := by decide +kernel
theorem dL_act_39 : decode cL_act 39 = .ok (.bipush 15, 2) := by decide +kernel
theorem dL_act_41 : decode cL_act 41 = .ok (.iand, 1) := by decide +kernel
theorem dL_act_42 : decode cL_act 42 = .ok (.tableswitch 253 0 12 #[66, 83, 98, 125, 140, 156, 156, 171, 178, 210, 222, 222, 243], 66) := by decide +kernel
theorem dL_act_108 : decode cL_act 108 = .ok (.aload_n 0, 1) := by decide +kernel
theorem dL_act_109 : decode cL_act 109 = .ok (.iconst 0, 1) := by decide +kernel
theorem dL_act_110 : decode cL_act 110 = .ok (.bipush 8, 2) := by decide +kernel
theorem dL_act_112 : decode cL_act 112 = .ok (.iload_n 1, 1) := by decide +kernel
theorem dL_act_113 : decode cL_act 113 = .ok (.iconst 4, 1) := by decide +kernel
theorem dL_act_114 : decode cL_act 114 = .ok (.ishr, 1) := by decide +kernel
theorem dL_act_115 : decode cL_act 115 = .ok (.bipush 120, 2) := by decide +kernel
theorem dL_act_117 : decode cL_act 117 = .ok (.invokestatic 25, 3) := by decide +kernel
theorem dL_act_120 : decode cL_act 120 = .ok (.iadd, 1) := by decide +kernel
theorem dL_act_121 : decode cL_act 121 = .ok (.invokevirtual 30, 3) := by decide +kernel
theorem dL_act_124 : decode cL_act 124 = .ok (.ireturn, 1) := by decide +kernel
theorem dL_act_125 : decode cL_act 125 = .ok (.aload_n 0, 1) := by decide +kernel
theorem dL_act_126 : decode cL_act 126 = .ok (.iconst 1, 1) := by decide +kernel
theorem dL_act_127 : decode cL_act 127 = .ok (.iconst 1, 1) := by decide +kernel
theorem dL_act_128 : decode cL_act 128 = .ok (.iload_n 1, 1) := by decide +kernel
theorem dL_act_129 : decode cL_act 129 = .ok (.iconst 4, 1) := by decide +kernel
theorem dL_act_130 : decode cL_act 130 = .ok (.ishr, 1) := by decide +kernel
theorem dL_act_131 : decode cL_act 131 = .ok (.iconst 4, 1) := by decide +kernel
theorem dL_act_132 : decode cL_act 132 = .ok (.invokestatic 25, 3) := by decide +kernel
theorem dL_act_135 : decode cL_act 135 = .ok (.iadd, 1) := by decide +kernel
theorem dL_act_136 : decode cL_act 136 = .ok (.invokevirtual 30, 3) := by decide +kernel
theorem dL_act_139 : decode cL_act 139 = .ok (.ireturn, 1) := by decide +kernel
theorem dL_act_140 : decode cL_act 140 = .ok (.aload_n 0, 1) := by decide +kernel
theorem dL_act_141 : decode cL_act 141 = .ok (.iconst 2, 1) := by decide +kernel
theorem dL_act_142 : decode cL_act 142 = .ok (.iload_n 1, 1) := by decide +kernel
theorem dL_act_143 : decode cL_act 143 = .ok (.iconst 4, 1) := by decide +kernel
theorem dL_act_144 : decode cL_act 144 = .ok (.ishr, 1) := by decide +kernel
theorem dL_act_145 : decode cL_act 145 = .ok (.iconst 2, 1) := by decide +kernel
theorem dL_act_146 : decode cL_act 146 = .ok (.invokestatic 25, 3) := by decide +kernel
theorem dL_act_149 : decode cL_act 149 = .ok (.iconst 3, 1) := by decide +kernel
theorem dL_act_150 : decode cL_act 150 = .ok (.imul, 1) := by decide +kernel
theorem dL_act_151 : decode cL_act 151 = .ok (.iadd, 1) := by decide +kernel
theorem dL_act_152 : decode cL_act 152 = .ok (.iconst 1, 1) := by decide +kernel
theorem dL_act_153 : decode cL_act 153 = .ok (.iload_n 1, 1) := by decide +kernel
theorem dL_act_154 : decode cL_act 154 = .ok (.bipush 6, 2) := by decide +kernel
theorem dL_act_156 : decode cL_act 156 = .ok (.ishr, 1) := by decide +kernel
theorem dL_act_157 : decode cL_act 157 = .ok (.bipush 100, 2) := by decide +kernel
theorem dL_act_159 : decode cL_act 159 = .ok (.invokestatic 25, 3) := by decide +kernel
theorem dL_act_162 : decode cL_act 162 = .ok (.iadd, 1) := by decide +kernel
theorem dL_act_163 : decode cL_act 163 = .ok (.invokevirtual 30, 3) := by decide +kernel
theorem dL_act_166 : decode cL_act 166 = .ok (.ireturn, 1) := by decide +kernel
theorem dL_act_167 : decode cL_act 167 = .ok (.aload_n 0, 1) := by decide +kernel
theorem dL_act_168 : decode cL_act 168 = .ok (.iconst 3, 1) := by decide +kernel
theorem dL_act_169 : decode cL_act 169 = .ok (.iload_n 1, 1) := by decide +kernel
theorem dL_act_170 : decode cL_act 170 = .ok (.iconst 4, 1) := by decide +kernel
theorem dL_act_171 : decode cL_act 171 = .ok (.ishr, 1) := by decide +kernel
theorem dL_act_172 : decode cL_act 172 = .ok (.sipush 200, 3) := by decide +kernel
theorem dL_act_175 : decode cL_act 175 = .ok (.invokestatic 25, 3) := by decide +kernel
theorem dL_act_178 : decode cL_act 178 = .ok (.invokevirtual 30, 3) := by decide +kernel
theorem dL_act_181 : decode cL_act 181 = .ok (.ireturn, 1) := by decide +kernel
theorem dL_act_182 : decode cL_act 182 = .ok (.aload_n 0, 1) := by decide +kernel
theorem dL_act_183 : decode cL_act 183 = .ok (.iconst 4, 1) := by decide +kernel
theorem dL_act_184 : decode cL_act 184 = .ok (.iconst 1, 1) := by decide +kernel
theorem dL_act_185 : decode cL_act 185 = .ok (.iload_n 1, 1) := by decide +kernel
theorem dL_act_186 : decode cL_act 186 = .ok (.iconst 4, 1) := by decide +kernel
theorem dL_act_187 : decode cL_act 187 = .ok (.ishr, 1) := by decide +kernel
theorem dL_act_188 : decode cL_act 188 = .ok (.bipush 50, 2) := by decide +kernel
theorem dL_act_190 : decode cL_act 190 = .ok (.invokestatic 25, 3) := by decide +kernel
theorem dL_act_193 : decode cL_act 193 = .ok (.iadd, 1) := by decide +kernel
theorem dL_act_194 : decode cL_act 194 = .ok (.invokevirtual 30, 3) := by decide +kernel
theorem dL_act_197 : decode cL_act 197 = .ok (.ireturn, 1) := by decide +kernel
theorem dL_act_198 : decode cL_act 198 = .ok (.aload_n 0, 1) := by decide +kernel
theorem dL_act_199 : decode cL_act 199 = .ok (.iload 4, 2) := by decide +kernel
theorem dL_act_201 : decode cL_act 201 = .ok (.iload_n 1, 1) := by decide +kernel
theorem dL_act_202 : decode cL_act 202 = .ok (.bipush 10, 2) := by decide +kernel
theorem dL_act_204 : decode cL_act 204 = .ok (.ishr, 1) := by decide +kernel
theorem dL_act_205 : decode cL_act 205 = .ok (.iconst 4, 1) := by decide +kernel
theorem dL_act_206 : decode cL_act 206 = .ok (.invokestatic 25, 3) := by decide +kernel
theorem dL_act_209 : decode cL_act 209 = .ok (.invokevirtual 33, 3) := by decide +kernel
theorem dL_act_212 : decode cL_act 212 = .ok (.ireturn, 1) := by decide +kernel
theorem dL_act_213 : decode cL_act 213 = .ok (.aload_n 0, 1) := by decide +kernel
theorem dL_act_214 : decode cL_act 214 = .ok (.iload 4, 2) := by decide +kernel
theorem dL_act_216 : decode cL_act 216 = .ok (.invokevirtual 36, 3) := by decide +kernel
theorem dL_act_219 : decode cL_act 219 = .ok (.ireturn, 1) := by decide +kernel
theorem dL_act_220 : decode cL_act 220 = .ok (.aload_n 0, 1) := by decide +kernel
theorem dL_act_221 : decode cL_act 221 = .ok (.iload_n 1, 1) := by decide +kernel
theorem dL_act_222 : decode cL_act 222 = .ok (.iconst 4, 1) := by decide +kernel
theorem dL_act_223 : decode cL_act 223 = .ok (.ishr, 1) := by decide +kernel
theorem dL_act_224 : decode cL_act 224 = .ok (.aload_n 0, 1) := by decide +kernel
theorem dL_act_225 : decode cL_act 225 = .ok (.iconst 0, 1) := by decide +kernel
theorem dL_act_226 : decode cL_act 226 = .ok (.invokevirtual 12, 3) := by decide +kernel
theorem dL_act_229 : decode cL_act 229 = .ok (.iconst 1, 1) := by decide +kernel
theorem dL_act_230 : decode cL_act 230 = .ok (.iadd, 1) := by decide +kernel
theorem dL_act_231 : decode cL_act 231 = .ok (.invokestatic 25, 3) := by decide +kernel
theorem dL_act_234 : decode cL_act 234 = .ok (.iload_n 1, 1) := by decide +kernel
theorem dL_act_235 : decode cL_act 235 = .ok (.bipush 8, 2) := by decide +kernel
theorem dL_act_237 : decode cL_act 237 = .ok (.ishr, 1) := by decide +kernel
theorem dL_act_238 : decode cL_act 238 = .ok (.aload_n 0, 1) := by decide +kernel
theorem dL_act_239 : decode cL_act 239 = .ok (.iconst 0, 1) := by decide +kernel
theorem dL_act_240 : decode cL_act 240 = .ok (.invokevirtual 12, 3) := by decide +kernel
theorem dL_act_243 : decode cL_act 243 = .ok (.iconst 1, 1) := by decide +kernel
theorem dL_act_244 : decode cL_act 244 = .ok (.iadd, 1) := by decide +kernel
theorem dL_act_245 : decode cL_act 245 = .ok (.invokestatic 25, 3) := by decide +kernel
theorem dL_act_248 : decode cL_act 248 = .ok (.invokevirtual 39, 3) := by decide +kernel
theorem dL_act_251 : decode cL_act 251 = .ok (.ireturn, 1) := by decide +kernel
theorem dL_act_252 : decode cL_act 252 = .ok (.aload_n 0, 1) := by decide +kernel
theorem dL_act_253 : decode cL_act 253 = .ok (.iload_n 1, 1) := by decide +kernel
theorem dL_act_254 : decode cL_act 254 = .ok (.iconst 4, 1) := by decide +kernel
theorem dL_act_255 : decode cL_act 255 = .ok (.ishr, 1) := by decide +kernel
theorem dL_act_256 : decode cL_act 256 = .ok (.iconst 4, 1) := by decide +kernel
theorem dL_act_257 : decode cL_act 257 = .ok (.invokestatic 25, 3) := by decide +kernel
theorem dL_act_260 : decode cL_act 260 = .ok (.invokevirtual 42, 3) := by decide +kernel
theorem dL_act_263 : decode cL_act 263 = .ok (.ireturn, 1) := by decide +kernel
theorem dL_act_264 : decode cL_act 264 = .ok (.aload_n 0, 1) := by decide +kernel
theorem dL_act_265 : decode cL_act 265 = .ok (.iload_n 1, 1) := by decide +kernel
theorem dL_act_266 : decode cL_act 266 = .ok (.bipush 12, 2) := by decide +kernel
theorem dL_act_268 : decode cL_act 268 = .ok (.ishr, 1) := by decide +kernel
theorem dL_act_269 : decode cL_act 269 = .ok (.iconst 1, 1) := by decide +kernel
theorem dL_act_270 : decode cL_act 270 = .ok (.iand, 1) := by decide +kernel
theorem dL_act_271 : decode cL_act 271 = .ok (.iload 4, 2) := by decide +kernel
theorem dL_act_273 : decode cL_act 273 = .ok (.iload_n 1, 1) := by decide +kernel
theorem dL_act_274 : decode cL_act 274 = .ok (.bipush 13, 2) := by decide +kernel
theorem dL_act_276 : decode cL_act 276 = .ok (.ishr, 1) := by decide +kernel
theorem dL_act_277 : decode cL_act 277 = .ok (.iconst 3, 1) := by decide +kernel
theorem dL_act_278 : decode cL_act 278 = .ok (.iand, 1) := by decide +kernel
theorem dL_act_279 : decode cL_act 279 = .ok (.iconst 1, 1) := by decide +kernel
theorem dL_act_280 : decode cL_act 280 = .ok (.iand, 1) := by decide +kernel
theorem dL_act_281 : decode cL_act 281 = .ok (.invokevirtual 45, 3) := by decide +kernel
theorem dL_act_284 : decode cL_act 284 = .ok (.ireturn, 1) := by decide +kernel
theorem dL_act_285 : decode cL_act 285 = .ok (.aload_n 0, 1) := by decide +kernel
theorem dL_act_286 : decode cL_act 286 = .ok (.iload_n 1, 1) := by decide +kernel
theorem dL_act_287 : decode cL_act 287 = .ok (.iconst 4, 1) := by decide +kernel
theorem dL_act_288 : decode cL_act 288 = .ok (.ishr, 1) := by decide +kernel
theorem dL_act_289 : decode cL_act 289 = .ok (.iconst 1, 1) := by decide +kernel
theorem dL_act_290 : decode cL_act 290 = .ok (.iand, 1) := by decide +kernel
theorem dL_act_291 : decode cL_act 291 = .ok (.invokevirtual 49, 3) := by decide +kernel
theorem dL_act_294 : decode cL_act 294 = .ok (.ireturn, 1) := by decide +kernel
theorem dL_act_295 : decode cL_act 295 = .ok (.aload_n 0, 1) := by decide +kernel
theorem dL_act_296 : decode cL_act 296 = .ok (.iload_n 2, 1) := by decide +kernel
theorem dL_act_297 : decode cL_act 297 = .ok (.invokevirtual 52, 3) := by decide +kernel
theorem dL_act_300 : decode cL_act 300 = .ok (.ireturn, 1) := by decide +kernel
set_option maxRecDepth 20000 in
theorem ggL_isRow_X4_count : GoodIn wsL_isRow wsX4_count := goodIn_r _ [5, 6, 7, 8, 9, 10, 11, 12, 13, 14, 15, 16, 17, 18, 19, 20, 21, 22, 23, 24, 25, 4, 26, 27, 28, 29, 30, 31, 32, 33, 34, 35, 36, 37, 38, 39, 40, 41, 42, 43, 44, 45, 46, 47, 48, 49, 50, 51, 52, 53, 54, 55, 56, 57, 58, 59, 60, 61, 62, 63, 64, 65, 66, 67, 68, 69, 70, 71, 72, 73, 74, 75, 76, 77, 78, 79, 80, 81, 82, 83, 84, 85, 86, 87, 88, 89, 90, 91, 92, 93, 94, 95, 96, 97, 98, 99, 100, 101, 102, 103, 104, 105, 106, 107, 108, 148, 149, 150, 151, 152, 153, 154, 155, 156, 157, 158, 159, 160, 161, 162, 163, 164, 165] (by decide +kernel) (by decide +kernel)
set_option maxRecDepth 20000 in
theorem gL_isRow_X4_count : GoodIn wsL_isRow (wsV RL 12 RX4 yX4_count wsX4_count) := goodIn_app (goodIn_of _ (by decide +kernel)) ggL_isRow_X4_count
set_option maxRecDepth 20000 in
theorem ggL_isRow_X4_at : GoodIn wsL_isRow wsX4_at := goodIn_r _ [112, 6, 7, 9, 113, 148, 149, 150, 151, 152, 153, 154, 155, 156, 157, 158, 159, 160, 161] (by decide +kernel) (by decide +kernel)
set_option maxRecDepth 20000 in
theorem gL_isRow_X4_at : GoodIn wsL_isRow (wsV RL 18 RX4 yX4_at wsX4_at) := goodIn_app (goodIn_of _ (by decide +kernel)) ggL_isRow_X4_at
set_option maxRecDepth 20000 in
theorem ggL_isRow_X4_spot : GoodIn wsL_isRow wsX4_spot := goodIn_r _ [117, 6, 7, 118, 10, 8, 119, 120, 4, 121, 122, 123, 124, 125, 55, 56, 16, 57, 18, 24, 126, 51, 52, 53, 19, 54, 20, 21, 22, 23, 25, 26, 27, 28, 29, 30, 38, 39, 40, 41, 42, 43, 44, 45, 46, 47, 48, 49, 50, 58, 59, 60, 61, 62, 63, 64, 65, 66, 67, 68, 69, 70, 71, 72, 73, 74, 75, 76, 77, 78, 79, 80, 81, 82, 127, 128, 129, 130, 131, 132, 133, 134, 135, 136, 137, 138, 139, 140, 141, 142, 148, 149, 150, 151, 152, 153, 154, 155, 156, 157, 158, 159, 160, 161] (by decide +kernel) (by decide +kernel)
set_option maxRecDepth 20000 in
theorem gL_isRow_X4_spot : GoodIn wsL_isRow (wsV RL 21 RX4 yX4_spot wsX4_spot) := goodIn_app (goodIn_of _ (by decide +kernel)) ggL_isRow_X4_spot
set_option maxRecDepth 20000 in
theorem ggL_isRow_X4_brightness : GoodIn wsL_isRow wsX4_brightness := goodIn_r _ [146, 6, 7, 8, 119, 120, 4, 121, 126, 51, 52, 16, 53, 19, 54, 55, 56, 57, 18, 24, 20, 21, 22, 23, 25, 26, 27, 28, 29, 30, 147, 59, 60, 61, 62, 63, 64, 65, 66, 67, 148, 149, 150, 151, 152, 153, 154, 155, 156, 157, 158, 159, 160, 161] (by decide +kernel) (by decide +kernel)
set_option maxRecDepth 20000 in
theorem gL_isRow_X4_brightness : GoodIn wsL_isRow (wsV RL 55 RX4 yX4_brightness wsX4_brightness) := goodIn_app (goodIn_of _ (by decide +kernel)) ggL_isRow_X4_brightness
theorem dL_isRow_0 : decode cL_isRow 0 = .ok (.aload_n 0, 1) := by decide +kernel
theorem dL_isRow_1 : decode cL_isRow 1 = .ok (.iconst 0, 1) := by decide +kernel
theorem dL_isRow_2 : decode cL_isRow 2 = .ok (.invokevirtual 12, 3) := by decide +kernel
theorem dL_isRow_5 : decode cL_isRow 5 = .ok (.istore_n 1, 1) := by decide +kernel
theorem dL_isRow_6 : decode cL_isRow 6 = .ok (.iconst 0, 1) := by decide +kernel
theorem dL_isRow_7 : decode cL_isRow 7 = .ok (.istore_n 2, 1) := by decide +kernel
theorem dL_isRow_8 : decode cL_isRow 8 = .ok (.iconst 0, 1) := by decide +kernel
theorem dL_isRow_9 : decode cL_isRow 9 = .ok (.istore_n 3, 1) := by decide +kernel
theorem dL_isRow_10 : decode cL_isRow 10 = .ok (.iconst 0, 1) := by decide +kernel
theorem dL_isRow_11 : decode cL_isRow 11 = .ok (.istore 4, 2) := by decide +kernel
theorem dL_isRow_13 : decode cL_isRow 13 = .ok (.iconst 0, 1) := by decide +kernel
theorem dL_isRow_14 : decode cL_isRow 14 = .ok (.istore 5, 2) := by decide +kernel
theorem dL_isRow_16 : decode cL_isRow 16 = .ok (.iload 5, 2) := by decide +kernel
theorem dL_isRow_18 : decode cL_isRow 18 = .ok (.iload_n 1, 1) := by decide +kernel
theorem dL_isRow_19 : decode cL_isRow 19 = .ok (.if_icmp .ge 106, 3) := by decide +kernel
theorem dL_isRow_22 : decode cL_isRow 22 = .ok (.aload_n 0, 1) := by decide +kernel
theorem dL_isRow_23 : decode cL_isRow 23 = .ok (.iload 5, 2) := by decide +kernel
theorem dL_isRow_25 : decode cL_isRow 25 = .ok (.invokevirtual 18, 3) := by decide +kernel
theorem dL_isRow_28 : decode cL_isRow 28 = .ok (.istore 6, 2) := by decide +kernel
theorem dL_isRow_30 : decode cL_isRow 30 = .ok (.aload_n 0, 1) := by decide +kernel
theorem dL_isRow_31 : decode cL_isRow 31 = .ok (.iload 6, 2) := by decide +kernel
theorem dL_isRow_33 : decode cL_isRow 33 = .ok (.iconst 4, 1) := by decide +kernel
theorem dL_isRow_34 : decode cL_isRow 34 = .ok (.invokevirtual 21, 3) := by decide +kernel
theorem dL_isRow_37 : decode cL_isRow 37 = .ok (.istore 7, 2) := by decide +kernel
theorem dL_isRow_39 : decode cL_isRow 39 = .ok (.aload_n 0, 1) := by decide +kernel
theorem dL_isRow_40 : decode cL_isRow 40 = .ok (.iload 6, 2) := by decide +kernel
theorem dL_isRow_42 : decode cL_isRow 42 = .ok (.iconst 3, 1) := by decide +kernel
theorem dL_isRow_43 : decode cL_isRow 43 = .ok (.invokevirtual 21, 3) := by decide +kernel
theorem dL_isRow_46 : decode cL_isRow 46 = .ok (.iload 5, 2) := by decide +kernel
theorem dL_isRow_48 : decode cL_isRow 48 = .ok (.if_icmp .ne 32, 3) := by decide +kernel
theorem dL_isRow_51 : decode cL_isRow 51 = .ok (.iload 7, 2) := by decide +kernel
theorem dL_isRow_53 : decode cL_isRow 53 = .ok (.ifCond .lt 29, 3) := by decide +kernel
theorem dL_isRow_56 : decode cL_isRow 56 = .ok (.iload 4, 2) := by decide +kernel
theorem dL_isRow_58 : decode cL_isRow 58 = .ok (.ifCond .ne 22, 3) := by decide +kernel
theorem dL_isRow_61 : decode cL_isRow 61 = .ok (.iload 7, 2) := by decide +kernel
theorem dL_isRow_63 : decode cL_isRow 63 = .ok (.iload_n 3, 1) := by decide +kernel
theorem dL_isRow_64 : decode cL_isRow 64 = .ok (.if_icmp .le 16, 3) := by decide +kernel
theorem dL_isRow_67 : decode cL_isRow 67 = .ok (.aload_n 0, 1) := by decide +kernel
theorem dL_isRow_68 : decode cL_isRow 68 = .ok (.iload 6, 2) := by decide +kernel
theorem dL_isRow_70 : decode cL_isRow 70 = .ok (.iload 7, 2) := by decide +kernel
theorem dL_isRow_72 : decode cL_isRow 72 = .ok (.invokevirtual 55, 3) := by decide +kernel
theorem dL_isRow_75 : decode cL_isRow 75 = .ok (.bipush 100, 2) := by decide +kernel
theorem dL_isRow_77 : decode cL_isRow 77 = .ok (.if_icmp .eq 5, 3) := by decide +kernel
theorem dL_isRow_80 : decode cL_isRow 80 = .ok (.iconst 0, 1) := by decide +kernel
theorem dL_isRow_81 : decode cL_isRow 81 = .ok (.ireturn, 1) := by decide +kernel
theorem dL_isRow_82 : decode cL_isRow 82 = .ok (.iload 7, 2) := by decide +kernel
theorem dL_isRow_84 : decode cL_isRow 84 = .ok (.ifCond .ge 7, 3) := by decide +kernel
theorem dL_isRow_87 : decode cL_isRow 87 = .ok (.iconst 1, 1) := by decide +kernel
theorem dL_isRow_88 : decode cL_isRow 88 = .ok (.goto 4, 3) := by decide +kernel
theorem dL_isRow_91 : decode cL_isRow 91 = .ok (.iconst 0, 1) := by decide +kernel
theorem dL_isRow_92 : decode cL_isRow 92 = .ok (.istore 4, 2) := by decide +kernel
theorem dL_isRow_94 : decode cL_isRow 94 = .ok (.iload 7, 2) := by decide +kernel
theorem dL_isRow_96 : decode cL_isRow 96 = .ok (.ifCond .ge 7, 3) := by decide +kernel
theorem dL_isRow_99 : decode cL_isRow 99 = .ok (.iload_n 3, 1) := by decide +kernel
theorem dL_isRow_100 : decode cL_isRow 100 = .ok (.goto 5, 3) := by decide +kernel
theorem dL_isRow_103 : decode cL_isRow 103 = .ok (.iload 7, 2) := by decide +kernel
theorem dL_isRow_105 : decode cL_isRow 105 = .ok (.istore_n 3, 1) := by decide +kernel
theorem dL_isRow_106 : decode cL_isRow 106 = .ok (.iload_n 2, 1) := by decide +kernel
theorem dL_isRow_107 : decode cL_isRow 107 = .ok (.iload 7, 2) := by decide +kernel
theorem dL_isRow_109 : decode cL_isRow 109 = .ok (.ifCond .ge 7, 3) := by decide +kernel
theorem dL_isRow_112 : decode cL_isRow 112 = .ok (.iconst 0, 1) := by decide +kernel
theorem dL_isRow_113 : decode cL_isRow 113 = .ok (.goto 4, 3) := by decide +kernel
theorem dL_isRow_116 : decode cL_isRow 116 = .ok (.iconst 1, 1) := by decide +kernel
theorem dL_isRow_117 : decode cL_isRow 117 = .ok (.iadd, 1) := by decide +kernel
theorem dL_isRow_118 : decode cL_isRow 118 = .ok (.istore_n 2, 1) := by decide +kernel
theorem dL_isRow_119 : decode cL_isRow 119 = .ok (.iinc 5 1, 3) := by decide +kernel
theorem dL_isRow_122 : decode cL_isRow 122 = .ok (.goto (-106), 3) := by decide +kernel
theorem dL_isRow_125 : decode cL_isRow 125 = .ok (.iload_n 2, 1) := by decide +kernel
theorem dL_isRow_126 : decode cL_isRow 126 = .ok (.aload_n 0, 1) := by decide +kernel
theorem dL_isRow_127 : decode cL_isRow 127 = .ok (.iconst 1, 1) := by decide +kernel
theorem dL_isRow_128 : decode cL_isRow 128 = .ok (.invokevirtual 12, 3) := by decide +kernel
theorem dL_isRow_131 : decode cL_isRow 131 = .ok (.if_icmp .ne 36, 3) := by decide +kernel
theorem dL_isRow_134 : decode cL_isRow 134 = .ok (.aload_n 0, 1) := by decide +kernel
theorem dL_isRow_135 : decode cL_isRow 135 = .ok (.iload_n 1, 1) := by decide +kernel
theorem dL_isRow_136 : decode cL_isRow 136 = .ok (.invokevirtual 18, 3) := by decide +kernel
theorem dL_isRow_139 : decode cL_isRow 139 = .ok (.bipush (-9), 2) := by decide +kernel
theorem dL_isRow_141 : decode cL_isRow 141 = .ok (.if_icmp .ne 26, 3) := by decide +kernel
theorem dL_isRow_144 : decode cL_isRow 144 = .ok (.aload_n 0, 1) := by decide +kernel
theorem dL_isRow_145 : decode cL_isRow 145 = .ok (.bipush 9, 2) := by decide +kernel
theorem dL_isRow_147 : decode cL_isRow 147 = .ok (.invokevirtual 12, 3) := by decide +kernel
theorem dL_isRow_150 : decode cL_isRow 150 = .ok (.iload_n 2, 1) := by decide +kernel
theorem dL_isRow_151 : decode cL_isRow 151 = .ok (.ifCond .ne 8, 3) := by decide +kernel
theorem dL_isRow_154 : decode cL_isRow 154 = .ok (.bipush (-9), 2) := by decide +kernel
theorem dL_isRow_156 : decode cL_isRow 156 = .ok (.goto 4, 3) := by decide +kernel
theorem dL_isRow_159 : decode cL_isRow 159 = .ok (.iload_n 3, 1) := by decide +kernel
theorem dL_isRow_160 : decode cL_isRow 160 = .ok (.if_icmp .ne 7, 3) := by decide +kernel
theorem dL_isRow_163 : decode cL_isRow 163 = .ok (.iconst 1, 1) := by decide +kernel
theorem dL_isRow_164 : decode cL_isRow 164 = .ok (.goto 4, 3) := by decide +kernel
theorem dL_isRow_167 : decode cL_isRow 167 = .ok (.iconst 0, 1) := by decide +kernel
theorem dL_isRow_168 : decode cL_isRow 168 = .ok (.ireturn, 1) := by decide +kernel
set_option maxRecDepth 20000 in
theorem ggL_isSeen_X4_spot : GoodIn wsL_isSeen wsX4_spot := goodIn_r _ [5, 6, 7, 8, 9, 10, 11, 12, 4, 13, 14, 15, 16, 17, 18, 19, 20, 21, 22, 23, 24, 25, 26, 27, 28, 29, 30, 31, 32, 33, 34, 35, 36, 37, 38, 39, 40, 41, 42, 43, 44, 45, 46, 47, 48, 49, 50, 51, 52, 53, 54, 55, 56, 57, 58, 59, 60, 61, 62, 63, 64, 65, 66, 67, 68, 69, 70, 71, 72, 73, 74, 75, 76, 77, 78, 79, 80, 81, 82, 83, 84, 85, 86, 87, 88, 89, 90, 91, 92, 93, 145, 146, 147, 148, 149, 150, 151, 152, 153, 154, 155, 156, 157, 158] (by decide +kernel) (by decide +kernel)
set_option maxRecDepth 20000 in
theorem gL_isSeen_X4_spot : GoodIn wsL_isSeen (wsV RL 21 RX4 yX4_spot wsX4_spot) := goodIn_app (goodIn_of _ (by decide +kernel)) ggL_isSeen_X4_spot
set_option maxRecDepth 20000 in
theorem ggL_isSeen_X4_count : GoodIn wsL_isSeen wsX4_count := goodIn_r _ [97, 6, 7, 10, 98, 9, 99, 100, 101, 102, 103, 20, 104, 22, 28, 30, 31, 32, 33, 23, 34, 4, 35, 36, 37, 38, 39, 105, 106, 107, 108, 109, 110, 111, 40, 41, 42, 43, 44, 45, 46, 47, 48, 49, 50, 51, 52, 25, 26, 27, 29, 18, 19, 21, 53, 54, 55, 56, 57, 58, 59, 60, 61, 62, 63, 64, 65, 66, 67, 68, 69, 70, 71, 72, 73, 74, 75, 76, 77, 112, 113, 114, 115, 116, 117, 118, 119, 120, 121, 122, 123, 124, 125, 126, 127, 128, 129, 130, 131, 132, 133, 134, 135, 136, 137, 145, 146, 147, 148, 149, 150, 151, 152, 153, 154, 155, 156, 157, 158, 159, 160, 161, 162] (by decide +kernel) (by decide +kernel)
set_option maxRecDepth 20000 in
theorem gL_isSeen_X4_count : GoodIn wsL_isSeen (wsV RL 12 RX4 yX4_count wsX4_count) := goodIn_app (goodIn_of _ (by decide +kernel)) ggL_isSeen_X4_count
set_option maxRecDepth 20000 in
theorem ggL_isSeen_X4_firstWrong : GoodIn wsL_isSeen wsX4_firstWrong := goodIn_r _ [141, 6, 7, 10, 40, 41, 42, 20, 43, 28, 44, 45, 46, 47, 22, 23, 48, 49, 50, 51, 52, 25, 26, 27, 29, 18, 19, 21, 30, 31, 32, 33, 34, 4, 35, 36, 37, 38, 39, 53, 54, 55, 56, 57, 58, 59, 60, 61, 62, 63, 64, 65, 66, 67, 68, 69, 112, 113, 114, 115, 116, 142, 143, 144, 14, 15, 16, 70, 71, 72, 73, 74, 75, 76, 77, 145, 146, 147, 148, 149, 150, 151, 152, 153, 154, 155, 156, 157, 158] (by decide +kernel) (by decide +kernel)
set_option maxRecDepth 20000 in
theorem gL_isSeen_X4_firstWrong : GoodIn wsL_isSeen (wsV RL 58 RX4 yX4_firstWrong wsX4_firstWrong) := goodIn_app (goodIn_of _ (by decide +kernel)) ggL_isSeen_X4_firstWrong
theorem dL_isSeen_0 : decode cL_isSeen 0 = .ok (.iconst 0, 1) := by decide +kernel
theorem dL_isSeen_1 : decode cL_isSeen 1 = .ok (.istore_n 1, 1) := by decide +kernel
theorem dL_isSeen_2 : decode cL_isSeen 2 = .ok (.iconst 0, 1) := by decide +kernel
theorem dL_isSeen_3 : decode cL_isSeen 3 = .ok (.istore_n 2, 1) := by decide +kernel
theorem dL_isSeen_4 : decode cL_isSeen 4 = .ok (.iconst 0, 1) := by decide +kernel
theorem dL_isSeen_5 : decode cL_isSeen 5 = .ok (.istore_n 3, 1) := by decide +kernel
theorem dL_isSeen_6 : decode cL_isSeen 6 = .ok (.iconst 0, 1) := by decide +kernel
theorem dL_isSeen_7 : decode cL_isSeen 7 = .ok (.istore 4, 2) := by decide +kernel
theorem dL_isSeen_9 : decode cL_isSeen 9 = .ok (.bipush (-9), 2) := by decide +kernel
theorem dL_isSeen_11 : decode cL_isSeen 11 = .ok (.istore 5, 2) := by decide +kernel
theorem dL_isSeen_13 : decode cL_isSeen 13 = .ok (.bipush (-9), 2) := by decide +kernel
theorem dL_isSeen_15 : decode cL_isSeen 15 = .ok (.istore 6, 2) := by decide +kernel
theorem dL_isSeen_17 : decode cL_isSeen 17 = .ok (.bipush 63, 2) := by decide +kernel
theorem dL_isSeen_19 : decode cL_isSeen 19 = .ok (.istore 7, 2) := by decide +kernel
theorem dL_isSeen_21 : decode cL_isSeen 21 = .ok (.iload 7, 2) := by decide +kernel
theorem dL_isSeen_23 : decode cL_isSeen 23 = .ok (.ifCond .lt 135, 3) := by decide +kernel
theorem dL_isSeen_26 : decode cL_isSeen 26 = .ok (.aload_n 0, 1) := by decide +kernel
theorem dL_isSeen_27 : decode cL_isSeen 27 = .ok (.iload 7, 2) := by decide +kernel
theorem dL_isSeen_29 : decode cL_isSeen 29 = .ok (.iconst 5, 1) := by decide +kernel
theorem dL_isSeen_30 : decode cL_isSeen 30 = .ok (.invokevirtual 21, 3) := by decide +kernel
theorem dL_isSeen_33 : decode cL_isSeen 33 = .ok (.aload_n 0, 1) := by decide +kernel
theorem dL_isSeen_34 : decode cL_isSeen 34 = .ok (.iload 7, 2) := by decide +kernel
theorem dL_isSeen_36 : decode cL_isSeen 36 = .ok (.iconst 1, 1) := by decide +kernel
theorem dL_isSeen_37 : decode cL_isSeen 37 = .ok (.invokevirtual 21, 3) := by decide +kernel
theorem dL_isSeen_40 : decode cL_isSeen 40 = .ok (.if_icmp .eq 7, 3) := by decide +kernel
theorem dL_isSeen_43 : decode cL_isSeen 43 = .ok (.iconst 1, 1) := by decide +kernel
theorem dL_isSeen_44 : decode cL_isSeen 44 = .ok (.goto 4, 3) := by decide +kernel
theorem dL_isSeen_47 : decode cL_isSeen 47 = .ok (.iconst 0, 1) := by decide +kernel
theorem dL_isSeen_48 : decode cL_isSeen 48 = .ok (.istore 8, 2) := by decide +kernel
theorem dL_isSeen_50 : decode cL_isSeen 50 = .ok (.aload_n 0, 1) := by decide +kernel
theorem dL_isSeen_51 : decode cL_isSeen 51 = .ok (.iload 7, 2) := by decide +kernel
theorem dL_isSeen_53 : decode cL_isSeen 53 = .ok (.bipush 6, 2) := by decide +kernel
theorem dL_isSeen_55 : decode cL_isSeen 55 = .ok (.invokevirtual 21, 3) := by decide +kernel
theorem dL_isSeen_58 : decode cL_isSeen 58 = .ok (.aload_n 0, 1) := by decide +kernel
theorem dL_isSeen_59 : decode cL_isSeen 59 = .ok (.iload 7, 2) := by decide +kernel
theorem dL_isSeen_61 : decode cL_isSeen 61 = .ok (.iconst 2, 1) := by decide +kernel
theorem dL_isSeen_62 : decode cL_isSeen 62 = .ok (.invokevirtual 21, 3) := by decide +kernel
theorem dL_isSeen_65 : decode cL_isSeen 65 = .ok (.if_icmp .eq 7, 3) := by decide +kernel
theorem dL_isSeen_68 : decode cL_isSeen 68 = .ok (.iconst 1, 1) := by decide +kernel
theorem dL_isSeen_69 : decode cL_isSeen 69 = .ok (.goto 4, 3) := by decide +kernel
theorem dL_isSeen_72 : decode cL_isSeen 72 = .ok (.iconst 0, 1) := by decide +kernel
theorem dL_isSeen_73 : decode cL_isSeen 73 = .ok (.istore 9, 2) := by decide +kernel
theorem dL_isSeen_75 : decode cL_isSeen 75 = .ok (.iload_n 1, 1) := by decide +kernel
theorem dL_isSeen_76 : decode cL_isSeen 76 = .ok (.iload 8, 2) := by decide +kernel
theorem dL_isSeen_78 : decode cL_isSeen 78 = .ok (.ifCond .eq 7, 3) := by decide +kernel
theorem dL_isSeen_81 : decode cL_isSeen 81 = .ok (.iconst 1, 1) := by decide +kernel
theorem dL_isSeen_82 : decode cL_isSeen 82 = .ok (.goto 4, 3) := by decide +kernel
theorem dL_isSeen_85 : decode cL_isSeen 85 = .ok (.iconst 0, 1) := by decide +kernel
theorem dL_isSeen_86 : decode cL_isSeen 86 = .ok (.iadd, 1) := by decide +kernel
theorem dL_isSeen_87 : decode cL_isSeen 87 = .ok (.istore_n 1, 1) := by decide +kernel
theorem dL_isSeen_88 : decode cL_isSeen 88 = .ok (.iload_n 2, 1) := by decide +kernel
theorem dL_isSeen_89 : decode cL_isSeen 89 = .ok (.iload 9, 2) := by decide +kernel
theorem dL_isSeen_91 : decode cL_isSeen 91 = .ok (.ifCond .eq 7, 3) := by decide +kernel
theorem dL_isSeen_94 : decode cL_isSeen 94 = .ok (.iconst 1, 1) := by decide +kernel
theorem dL_isSeen_95 : decode cL_isSeen 95 = .ok (.goto 4, 3) := by decide +kernel
theorem dL_isSeen_98 : decode cL_isSeen 98 = .ok (.iconst 0, 1) := by decide +kernel
theorem dL_isSeen_99 : decode cL_isSeen 99 = .ok (.iadd, 1) := by decide +kernel
theorem dL_isSeen_100 : decode cL_isSeen 100 = .ok (.istore_n 2, 1) := by decide +kernel
theorem dL_isSeen_101 : decode cL_isSeen 101 = .ok (.iload 8, 2) := by decide +kernel
theorem dL_isSeen_103 : decode cL_isSeen 103 = .ok (.ifCond .eq 8, 3) := by decide +kernel
theorem dL_isSeen_106 : decode cL_isSeen 106 = .ok (.iload 7, 2) := by decide +kernel
theorem dL_isSeen_108 : decode cL_isSeen 108 = .ok (.goto 5, 3) := by decide +kernel
theorem dL_isSeen_111 : decode cL_isSeen 111 = .ok (.iload 5, 2) := by decide +kernel
theorem dL_isSeen_113 : decode cL_isSeen 113 = .ok (.istore 5, 2) := by decide +kernel
theorem dL_isSeen_115 : decode cL_isSeen 115 = .ok (.iload 9, 2) := by decide +kernel
theorem dL_isSeen_117 : decode cL_isSeen 117 = .ok (.ifCond .eq 8, 3) := by decide +kernel
theorem dL_isSeen_120 : decode cL_isSeen 120 = .ok (.iload 7, 2) := by decide +kernel
theorem dL_isSeen_122 : decode cL_isSeen 122 = .ok (.goto 5, 3) := by decide +kernel
theorem dL_isSeen_125 : decode cL_isSeen 125 = .ok (.iload 6, 2) := by decide +kernel
theorem dL_isSeen_127 : decode cL_isSeen 127 = .ok (.istore 6, 2) := by decide +kernel
theorem dL_isSeen_129 : decode cL_isSeen 129 = .ok (.iload_n 3, 1) := by decide +kernel
theorem dL_isSeen_130 : decode cL_isSeen 130 = .ok (.aload_n 0, 1) := by decide +kernel
theorem dL_isSeen_131 : decode cL_isSeen 131 = .ok (.iload 7, 2) := by decide +kernel
theorem dL_isSeen_133 : decode cL_isSeen 133 = .ok (.iconst 5, 1) := by decide +kernel
theorem dL_isSeen_134 : decode cL_isSeen 134 = .ok (.invokevirtual 21, 3) := by decide +kernel
theorem dL_isSeen_137 : decode cL_isSeen 137 = .ok (.iadd, 1) := by decide +kernel
theorem dL_isSeen_138 : decode cL_isSeen 138 = .ok (.istore_n 3, 1) := by decide +kernel
theorem dL_isSeen_139 : decode cL_isSeen 139 = .ok (.iload 4, 2) := by decide +kernel
theorem dL_isSeen_141 : decode cL_isSeen 141 = .ok (.aload_n 0, 1) := by decide +kernel
theorem dL_isSeen_142 : decode cL_isSeen 142 = .ok (.iload 7, 2) := by decide +kernel
theorem dL_isSeen_144 : decode cL_isSeen 144 = .ok (.bipush 6, 2) := by decide +kernel
theorem dL_isSeen_146 : decode cL_isSeen 146 = .ok (.invokevirtual 21, 3) := by decide +kernel
theorem dL_isSeen_149 : decode cL_isSeen 149 = .ok (.iadd, 1) := by decide +kernel
theorem dL_isSeen_150 : decode cL_isSeen 150 = .ok (.istore 4, 2) := by decide +kernel
theorem dL_isSeen_152 : decode cL_isSeen 152 = .ok (.iinc 7 (-1), 3) := by decide +kernel
theorem dL_isSeen_155 : decode cL_isSeen 155 = .ok (.goto (-134), 3) := by decide +kernel
theorem dL_isSeen_158 : decode cL_isSeen 158 = .ok (.aload_n 0, 1) := by decide +kernel
theorem dL_isSeen_159 : decode cL_isSeen 159 = .ok (.bipush 6, 2) := by decide +kernel
theorem dL_isSeen_161 : decode cL_isSeen 161 = .ok (.invokevirtual 12, 3) := by decide +kernel
theorem dL_isSeen_164 : decode cL_isSeen 164 = .ok (.iload_n 1, 1) := by decide +kernel
theorem dL_isSeen_165 : decode cL_isSeen 165 = .ok (.if_icmp .ne 56, 3) := by decide +kernel
theorem dL_isSeen_168 : decode cL_isSeen 168 = .ok (.aload_n 0, 1) := by decide +kernel
theorem dL_isSeen_169 : decode cL_isSeen 169 = .ok (.bipush 7, 2) := by decide +kernel
theorem dL_isSeen_171 : decode cL_isSeen 171 = .ok (.invokevirtual 12, 3) := by decide +kernel
theorem dL_isSeen_174 : decode cL_isSeen 174 = .ok (.iload_n 2, 1) := by decide +kernel
theorem dL_isSeen_175 : decode cL_isSeen 175 = .ok (.if_icmp .ne 46, 3) := by decide +kernel
theorem dL_isSeen_178 : decode cL_isSeen 178 = .ok (.aload_n 0, 1) := by decide +kernel
theorem dL_isSeen_179 : decode cL_isSeen 179 = .ok (.iconst 0, 1) := by decide +kernel
theorem dL_isSeen_180 : decode cL_isSeen 180 = .ok (.invokevirtual 58, 3) := by decide +kernel
theorem dL_isSeen_183 : decode cL_isSeen 183 = .ok (.iload 5, 2) := by decide +kernel
theorem dL_isSeen_185 : decode cL_isSeen 185 = .ok (.if_icmp .ne 36, 3) := by decide +kernel
theorem dL_isSeen_188 : decode cL_isSeen 188 = .ok (.aload_n 0, 1) := by decide +kernel
theorem dL_isSeen_189 : decode cL_isSeen 189 = .ok (.iconst 1, 1) := by decide +kernel
theorem dL_isSeen_190 : decode cL_isSeen 190 = .ok (.invokevirtual 58, 3) := by decide +kernel
theorem dL_isSeen_193 : decode cL_isSeen 193 = .ok (.iload 6, 2) := by decide +kernel
theorem dL_isSeen_195 : decode cL_isSeen 195 = .ok (.if_icmp .ne 26, 3) := by decide +kernel
theorem dL_isSeen_198 : decode cL_isSeen 198 = .ok (.aload_n 0, 1) := by decide +kernel
theorem dL_isSeen_199 : decode cL_isSeen 199 = .ok (.iconst 4, 1) := by decide +kernel
theorem dL_isSeen_200 : decode cL_isSeen 200 = .ok (.invokevirtual 12, 3) := by decide +kernel
theorem dL_isSeen_203 : decode cL_isSeen 203 = .ok (.iload_n 3, 1) := by decide +kernel
theorem dL_isSeen_204 : decode cL_isSeen 204 = .ok (.if_icmp .ne 17, 3) := by decide +kernel
theorem dL_isSeen_207 : decode cL_isSeen 207 = .ok (.aload_n 0, 1) := by decide +kernel
theorem dL_isSeen_208 : decode cL_isSeen 208 = .ok (.iconst 5, 1) := by decide +kernel
theorem dL_isSeen_209 : decode cL_isSeen 209 = .ok (.invokevirtual 12, 3) := by decide +kernel
theorem dL_isSeen_212 : decode cL_isSeen 212 = .ok (.iload 4, 2) := by decide +kernel
theorem dL_isSeen_214 : decode cL_isSeen 214 = .ok (.if_icmp .ne 7, 3) := by decide +kernel
theorem dL_isSeen_217 : decode cL_isSeen 217 = .ok (.iconst 1, 1) := by decide +kernel
theorem dL_isSeen_218 : decode cL_isSeen 218 = .ok (.goto 4, 3) := by decide +kernel
theorem dL_isSeen_221 : decode cL_isSeen 221 = .ok (.iconst 0, 1) := by decide +kernel
theorem dL_isSeen_222 : decode cL_isSeen 222 = .ok (.ireturn, 1) := by decide +kernel
set_option maxRecDepth 20000 in
theorem ggL_isMean_X4_count : GoodIn wsL_isMean wsX4_count := goodIn_r _ [5, 6, 7, 8, 9, 10, 11, 12, 13, 14, 15, 16, 17, 18, 19, 20, 21, 22, 23, 24, 25, 4, 26, 27, 28, 29, 30, 31, 32, 33, 34, 35, 36, 37, 38, 39, 40, 41, 42, 43, 44, 45, 46, 47, 48, 49, 50, 51, 52, 53, 54, 55, 56, 57, 58, 59, 60, 61, 62, 63, 64, 65, 66, 67, 68, 69, 70, 71, 72, 73, 74, 75, 76, 77, 78, 79, 80, 81, 82, 83, 84, 85, 86, 87, 88, 89, 90, 91, 92, 93, 94, 95, 96, 97, 98, 99, 100, 101, 102, 103, 104, 105, 106, 107, 108, 143, 144, 145, 146, 147, 148, 149, 150, 151, 152, 153, 154, 155, 156, 157, 158, 159, 160] (by decide +kernel) (by decide +kernel)
set_option maxRecDepth 20000 in
theorem gL_isMean_X4_count : GoodIn wsL_isMean (wsV RL 12 RX4 yX4_count wsX4_count) := goodIn_app (goodIn_of _ (by decide +kernel)) ggL_isMean_X4_count
set_option maxRecDepth 20000 in
theorem ggL_isMean_X4_brightness : GoodIn wsL_isMean wsX4_brightness := goodIn_r _ [112, 6, 7, 8, 113, 114, 4, 115, 116, 51, 52, 16, 53, 19, 54, 55, 56, 57, 18, 24, 20, 21, 22, 23, 25, 26, 27, 28, 29, 30, 117, 59, 60, 61, 62, 63, 64, 65, 66, 67, 143, 144, 145, 146, 147, 148, 149, 150, 151, 152, 153, 154, 155, 156] (by decide +kernel) (by decide +kernel)
set_option maxRecDepth 20000 in
theorem gL_isMean_X4_brightness : GoodIn wsL_isMean (wsV RL 55 RX4 yX4_brightness wsX4_brightness) := goodIn_app (goodIn_of _ (by decide +kernel)) ggL_isMean_X4_brightness
set_option maxRecDepth 20000 in
theorem ggL_isMean_X4_spot : GoodIn wsL_isMean wsX4_spot := goodIn_r _ [121, 6, 7, 122, 10, 8, 113, 114, 4, 115, 123, 124, 125, 126, 55, 56, 16, 57, 18, 24, 116, 51, 52, 53, 19, 54, 20, 21, 22, 23, 25, 26, 27, 28, 29, 30, 38, 39, 40, 41, 42, 43, 44, 45, 46, 47, 48, 49, 50, 58, 59, 60, 61, 62, 63, 64, 65, 66, 67, 68, 69, 70, 71, 72, 73, 74, 75, 76, 77, 78, 79, 80, 81, 82, 127, 128, 129, 130, 131, 132, 133, 134, 135, 136, 137, 138, 139, 140, 141, 142, 143, 144, 145, 146, 147, 148, 149, 150, 151, 152, 153, 154, 155, 156] (by decide +kernel) (by decide +kernel)
set_option maxRecDepth 20000 in
theorem gL_isMean_X4_spot : GoodIn wsL_isMean (wsV RL 21 RX4 yX4_spot wsX4_spot) := goodIn_app (goodIn_of _ (by decide +kernel)) ggL_isMean_X4_spot
theorem dL_isMean_0 : decode cL_isMean 0 = .ok (.aload_n 0, 1) := by decide +kernel
theorem dL_isMean_1 : decode cL_isMean 1 = .ok (.bipush 13, 2) := by decide +kernel
theorem dL_isMean_3 : decode cL_isMean 3 = .ok (.invokevirtual 12, 3) := by decide +kernel
theorem dL_isMean_6 : decode cL_isMean 6 = .ok (.istore_n 2, 1) := by decide +kernel
theorem dL_isMean_7 : decode cL_isMean 7 = .ok (.iconst 0, 1) := by decide +kernel
theorem dL_isMean_8 : decode cL_isMean 8 = .ok (.istore_n 3, 1) := by decide +kernel
theorem dL_isMean_9 : decode cL_isMean 9 = .ok (.bipush 100, 2) := by decide +kernel
theorem dL_isMean_11 : decode cL_isMean 11 = .ok (.istore 4, 2) := by decide +kernel
theorem dL_isMean_13 : decode cL_isMean 13 = .ok (.iconst 0, 1) := by decide +kernel
theorem dL_isMean_14 : decode cL_isMean 14 = .ok (.istore 5, 2) := by decide +kernel
theorem dL_isMean_16 : decode cL_isMean 16 = .ok (.iconst 0, 1) := by decide +kernel
theorem dL_isMean_17 : decode cL_isMean 17 = .ok (.istore 6, 2) := by decide +kernel
theorem dL_isMean_19 : decode cL_isMean 19 = .ok (.iload 6, 2) := by decide +kernel
theorem dL_isMean_21 : decode cL_isMean 21 = .ok (.iload_n 2, 1) := by decide +kernel
theorem dL_isMean_22 : decode cL_isMean 22 = .ok (.if_icmp .ge 55, 3) := by decide +kernel
theorem dL_isMean_25 : decode cL_isMean 25 = .ok (.aload_n 0, 1) := by decide +kernel
theorem dL_isMean_26 : decode cL_isMean 26 = .ok (.iload_n 1, 1) := by decide +kernel
theorem dL_isMean_27 : decode cL_isMean 27 = .ok (.iload 6, 2) := by decide +kernel
theorem dL_isMean_29 : decode cL_isMean 29 = .ok (.invokevirtual 55, 3) := by decide +kernel
theorem dL_isMean_32 : decode cL_isMean 32 = .ok (.istore 7, 2) := by decide +kernel
theorem dL_isMean_34 : decode cL_isMean 34 = .ok (.iload_n 3, 1) := by decide +kernel
theorem dL_isMean_35 : decode cL_isMean 35 = .ok (.iload 7, 2) := by decide +kernel
theorem dL_isMean_37 : decode cL_isMean 37 = .ok (.iadd, 1) := by decide +kernel
theorem dL_isMean_38 : decode cL_isMean 38 = .ok (.istore_n 3, 1) := by decide +kernel
theorem dL_isMean_39 : decode cL_isMean 39 = .ok (.iload 7, 2) := by decide +kernel
theorem dL_isMean_41 : decode cL_isMean 41 = .ok (.iload 4, 2) := by decide +kernel
theorem dL_isMean_43 : decode cL_isMean 43 = .ok (.if_icmp .ge 8, 3) := by decide +kernel
theorem dL_isMean_46 : decode cL_isMean 46 = .ok (.iload 7, 2) := by decide +kernel
theorem dL_isMean_48 : decode cL_isMean 48 = .ok (.goto 5, 3) := by decide +kernel
theorem dL_isMean_51 : decode cL_isMean 51 = .ok (.iload 4, 2) := by decide +kernel
theorem dL_isMean_53 : decode cL_isMean 53 = .ok (.istore 4, 2) := by decide +kernel
theorem dL_isMean_55 : decode cL_isMean 55 = .ok (.iload 7, 2) := by decide +kernel
theorem dL_isMean_57 : decode cL_isMean 57 = .ok (.iload 5, 2) := by decide +kernel
theorem dL_isMean_59 : decode cL_isMean 59 = .ok (.if_icmp .le 8, 3) := by decide +kernel
theorem dL_isMean_62 : decode cL_isMean 62 = .ok (.iload 7, 2) := by decide +kernel
theorem dL_isMean_64 : decode cL_isMean 64 = .ok (.goto 5, 3) := by decide +kernel
theorem dL_isMean_67 : decode cL_isMean 67 = .ok (.iload 5, 2) := by decide +kernel
theorem dL_isMean_69 : decode cL_isMean 69 = .ok (.istore 5, 2) := by decide +kernel
theorem dL_isMean_71 : decode cL_isMean 71 = .ok (.iinc 6 1, 3) := by decide +kernel
theorem dL_isMean_74 : decode cL_isMean 74 = .ok (.goto (-55), 3) := by decide +kernel
theorem dL_isMean_77 : decode cL_isMean 77 = .ok (.aload_n 0, 1) := by decide +kernel
theorem dL_isMean_78 : decode cL_isMean 78 = .ok (.iload_n 1, 1) := by decide +kernel
theorem dL_isMean_79 : decode cL_isMean 79 = .ok (.bipush 7, 2) := by decide +kernel
theorem dL_isMean_81 : decode cL_isMean 81 = .ok (.invokevirtual 21, 3) := by decide +kernel
theorem dL_isMean_84 : decode cL_isMean 84 = .ok (.iload_n 3, 1) := by decide +kernel
theorem dL_isMean_85 : decode cL_isMean 85 = .ok (.iload_n 2, 1) := by decide +kernel
theorem dL_isMean_86 : decode cL_isMean 86 = .ok (.idiv, 1) := by decide +kernel
theorem dL_isMean_87 : decode cL_isMean 87 = .ok (.if_icmp .ne 46, 3) := by decide +kernel
theorem dL_isMean_90 : decode cL_isMean 90 = .ok (.aload_n 0, 1) := by decide +kernel
theorem dL_isMean_91 : decode cL_isMean 91 = .ok (.iload_n 1, 1) := by decide +kernel
theorem dL_isMean_92 : decode cL_isMean 92 = .ok (.bipush 9, 2) := by decide +kernel
theorem dL_isMean_94 : decode cL_isMean 94 = .ok (.invokevirtual 21, 3) := by decide +kernel
theorem dL_isMean_97 : decode cL_isMean 97 = .ok (.iload 5, 2) := by decide +kernel
theorem dL_isMean_99 : decode cL_isMean 99 = .ok (.iload 4, 2) := by decide +kernel
theorem dL_isMean_101 : decode cL_isMean 101 = .ok (.isub, 1) := by decide +kernel
theorem dL_isMean_102 : decode cL_isMean 102 = .ok (.if_icmp .ne 31, 3) := by decide +kernel
theorem dL_isMean_105 : decode cL_isMean 105 = .ok (.aload_n 0, 1) := by decide +kernel
theorem dL_isMean_106 : decode cL_isMean 106 = .ok (.iload_n 1, 1) := by decide +kernel
theorem dL_isMean_107 : decode cL_isMean 107 = .ok (.iconst 4, 1) := by decide +kernel
theorem dL_isMean_108 : decode cL_isMean 108 = .ok (.invokevirtual 21, 3) := by decide +kernel
theorem dL_isMean_111 : decode cL_isMean 111 = .ok (.ifCond .ge 8, 3) := by decide +kernel
theorem dL_isMean_114 : decode cL_isMean 114 = .ok (.iload 5, 2) := by decide +kernel
theorem dL_isMean_116 : decode cL_isMean 116 = .ok (.ifCond .ne 17, 3) := by decide +kernel
theorem dL_isMean_119 : decode cL_isMean 119 = .ok (.aload_n 0, 1) := by decide +kernel
theorem dL_isMean_120 : decode cL_isMean 120 = .ok (.iload_n 1, 1) := by decide +kernel
theorem dL_isMean_121 : decode cL_isMean 121 = .ok (.iload_n 2, 1) := by decide +kernel
theorem dL_isMean_122 : decode cL_isMean 122 = .ok (.invokevirtual 55, 3) := by decide +kernel
theorem dL_isMean_125 : decode cL_isMean 125 = .ok (.iconst (-1), 1) := by decide +kernel
theorem dL_isMean_126 : decode cL_isMean 126 = .ok (.if_icmp .ne 7, 3) := by decide +kernel
theorem dL_isMean_129 : decode cL_isMean 129 = .ok (.iconst 1, 1) := by decide +kernel
theorem dL_isMean_130 : decode cL_isMean 130 = .ok (.goto 4, 3) := by decide +kernel
theorem dL_isMean_133 : decode cL_isMean 133 = .ok (.iconst 0, 1) := by decide +kernel
theorem dL_isMean_134 : decode cL_isMean 134 = .ok (.ireturn, 1) := by decide +kernel
set_option maxRecDepth 20000 in
theorem ggL_law_X4_init : GoodIn wsL_law wsX4_init := goodIn_r _ [5, 6, 7, 8, 9, 10, 11, 12, 13, 14, 15, 16, 17, 18, 19, 20, 21, 22, 23, 24, 25, 26, 27, 28, 29, 30, 31, 32, 33, 34, 35, 36, 37, 38, 39, 40, 41, 42, 43, 44, 45, 46, 47, 48, 49, 50, 51, 52, 53, 54, 55, 429, 430, 431, 423, 424, 425, 426, 427, 428, 432, 433, 434, 435, 436, 437, 438, 439, 440, 441, 442, 443, 444, 445, 446] (by decide +kernel) (by decide +kernel)
set_option maxRecDepth 20000 in
theorem gL_law_X4_init : GoodIn wsL_law (wsX4_init) := ggL_law_X4_init
set_option maxRecDepth 20000 in
theorem ggL_law_L_cell : GoodIn wsL_law wsL_cell := goodIn_r _ [59] (by decide +kernel) (by decide +kernel)
set_option maxRecDepth 20000 in
theorem gL_law_L_cell : GoodIn wsL_law (va_wsS RL 62 yL_cell wsL_cell) := goodIn_app (goodIn_of _ (by decide +kernel)) ggL_law_L_cell
set_option maxRecDepth 20000 in
theorem ggL_law_L_low : GoodIn wsL_law wsL_low := goodIn_r _ [62, 63] (by decide +kernel) (by decide +kernel)
set_option maxRecDepth 20000 in
theorem gL_law_L_low : GoodIn wsL_law (va_wsS RL 25 yL_low wsL_low) := goodIn_app (goodIn_of _ (by decide +kernel)) ggL_law_L_low
set_option maxRecDepth 20000 in
theorem ggL_law_X4_light : GoodIn wsL_law wsX4_light := goodIn_r _ [67, 12, 68, 69, 70, 71, 2, 72, 13, 73, 74, 75, 76, 11, 77, 31, 32, 34, 78, 79, 80, 30, 81, 38, 82, 83, 84, 85, 39, 86, 41, 42, 87, 88, 89, 90, 91, 92, 93, 94, 95, 96, 97, 98, 99, 100, 101, 102, 103, 104, 423, 424, 425, 426, 427, 428, 429, 430, 431, 442, 443, 444, 445, 446] (by decide +kernel) (by decide +kernel)
set_option maxRecDepth 20000 in
theorem gL_law_X4_light : GoodIn wsL_law (wsV RL 52 RX4 yX4_light wsX4_light) := goodIn_app (goodIn_of _ (by decide +kernel)) ggL_law_X4_light
set_option maxRecDepth 20000 in
theorem ggL_law_L_digest : GoodIn wsL_law wsL_digest := goodIn_r _ [107, 108, 109, 110, 111, 112, 2, 113, 12, 68, 114, 115, 116, 73, 17, 117, 118, 119, 30, 120, 86, 42, 121, 122, 123, 124, 39, 125, 126, 127, 128, 129, 130, 131, 132, 133, 134, 135, 136, 137, 138, 139, 140, 141, 142, 143, 144, 145, 146, 147, 148, 149, 150, 151, 152, 153, 93, 94, 95, 96, 154, 155, 156, 157, 38, 158, 159, 160, 161, 162, 163, 164, 165, 166, 167, 168, 169, 170, 171, 172, 173, 174, 175, 176, 177, 178, 179, 180, 181, 41, 182, 183, 184, 185, 186, 187, 188, 189, 11, 190, 34, 191, 192, 193, 16, 194, 195, 196, 197, 198, 199, 200, 201, 202, 203, 204, 205, 206, 207, 208, 209, 210, 91, 92, 211, 212, 213, 214, 215, 216, 217, 218, 219, 220, 221, 222, 223, 224, 225, 226, 227, 228, 229, 230, 231, 423, 424, 425, 426, 427, 428, 429, 430, 431, 442, 443, 444, 445, 446, 432, 433, 434, 435] (by decide +kernel) (by decide +kernel)
set_option maxRecDepth 20000 in
theorem gL_law_L_digest : GoodIn wsL_law (va_wsS RL 66 yL_digest wsL_digest) := goodIn_app (goodIn_of _ (by decide +kernel)) ggL_law_L_digest
set_option maxRecDepth 20000 in
theorem ggL_law_X4_count : GoodIn wsL_law wsX4_count := goodIn_r _ [113, 12, 68, 114, 115, 116, 73, 17, 117, 118, 119, 30, 120, 86, 42, 121, 122, 123, 124, 39, 125, 2, 126, 127, 128, 129, 130, 131, 132, 133, 134, 135, 136, 137, 138, 139, 140, 141, 142, 143, 144, 145, 146, 147, 148, 149, 150, 151, 152, 153, 93, 94, 95, 96, 154, 155, 156, 157, 38, 158, 159, 160, 161, 162, 163, 164, 165, 166, 167, 168, 169, 170, 171, 172, 173, 174, 175, 176, 177, 178, 179, 180, 181, 41, 182, 183, 184, 185, 186, 187, 188, 189, 11, 190, 34, 191, 192, 193, 16, 194, 195, 196, 197, 198, 199, 423, 424, 425, 426, 427, 428, 429, 430, 431, 442, 443, 444, 445, 446, 432, 433, 434, 435] (by decide +kernel) (by decide +kernel)
set_option maxRecDepth 20000 in
theorem gL_law_X4_count : GoodIn wsL_law (wsV RL 12 RX4 yX4_count wsX4_count) := goodIn_app (goodIn_of _ (by decide +kernel)) ggL_law_X4_count
set_option maxRecDepth 20000 in
theorem ggL_law_L_act : GoodIn wsL_law wsL_act := goodIn_r _ [234, 60, 61, 58, 62, 63, 110, 111, 112, 2, 113, 12, 68, 114, 115, 116, 73, 17, 117, 118, 119, 30, 120, 86, 42, 121, 122, 123, 124, 39, 125, 126, 127, 128, 129, 130, 131, 132, 133, 134, 135, 136, 137, 138, 139, 140, 141, 142, 143, 144, 145, 146, 147, 148, 149, 150, 151, 152, 153, 93, 94, 95, 96, 154, 155, 156, 157, 38, 158, 159, 160, 161, 162, 163, 164, 165, 166, 167, 168, 169, 170, 171, 172, 173, 174, 175, 176, 177, 178, 179, 180, 181, 41, 182, 183, 184, 185, 186, 187, 188, 189, 11, 190, 34, 191, 192, 193, 16, 194, 195, 196, 197, 198, 199, 200, 201, 202, 203, 204, 235, 236, 237, 238, 69, 70, 71, 72, 13, 74, 75, 76, 77, 31, 32, 78, 79, 80, 81, 82, 83, 84, 85, 239, 240, 241, 242, 243, 244, 97, 98, 99, 100, 101, 102, 103, 104, 245, 246, 247, 248, 249, 250, 251, 252, 91, 92, 253, 254, 255, 256, 257, 258, 259, 260, 261, 262, 263, 264, 265, 266, 267, 268, 269, 270, 271, 272, 273, 274, 275, 276, 277, 278, 279, 280, 281, 282, 283, 284, 285, 286, 287, 212, 213, 288, 289, 290, 291, 292, 293, 294, 295, 296, 297, 298, 299, 300, 301, 302, 303, 304, 305, 306, 307, 308, 309, 310, 311, 312, 64, 65, 66, 67, 87, 88, 89, 90, 423, 424, 425, 426, 427, 428, 429, 430, 431, 442, 443, 444, 445, 446, 432, 433, 434, 435] (by decide +kernel) (by decide +kernel)
set_option maxRecDepth 20000 in
theorem gL_law_L_act : GoodIn wsL_law (va_wsS RL 70 yL_act wsL_act) := goodIn_app (goodIn_of _ (by decide +kernel)) ggL_law_L_act
set_option maxRecDepth 20000 in
theorem ggL_law_X4_undo : GoodIn wsL_law wsX4_undo := goodIn_r _ [316, 73, 12, 13, 74, 75, 76, 11, 77, 31, 32, 34, 78, 79, 80, 30, 81, 38, 82, 83, 84, 85, 39, 86, 41, 42, 423, 424, 425, 426, 427, 428, 429, 430, 431, 442, 443, 444, 445, 446] (by decide +kernel) (by decide +kernel)
set_option maxRecDepth 20000 in
theorem gL_law_X4_undo : GoodIn wsL_law (wsV RL 74 RX4 yX4_undo wsX4_undo) := goodIn_app (goodIn_of _ (by decide +kernel)) ggL_law_X4_undo
set_option maxRecDepth 20000 in
theorem ggL_law_L_isRow : GoodIn wsL_law wsL_isRow := goodIn_r _ [319, 110, 111, 112, 2, 113, 12, 68, 114, 115, 116, 73, 17, 117, 118, 119, 30, 120, 86, 42, 121, 122, 123, 124, 39, 125, 126, 127, 128, 129, 130, 131, 132, 133, 134, 135, 136, 137, 138, 139, 140, 141, 142, 143, 144, 145, 146, 147, 148, 149, 150, 151, 152, 153, 93, 94, 95, 96, 154, 155, 156, 157, 38, 158, 159, 160, 161, 162, 163, 164, 165, 166, 167, 168, 169, 170, 171, 172, 173, 174, 175, 176, 177, 178, 179, 180, 181, 41, 182, 183, 184, 185, 186, 187, 188, 189, 11, 190, 34, 191, 192, 193, 16, 194, 195, 196, 197, 198, 199, 200, 201, 202, 203, 204, 205, 206, 207, 208, 209, 210, 91, 92, 211, 212, 213, 214, 215, 216, 217, 218, 219, 220, 221, 222, 223, 224, 225, 226, 227, 228, 229, 230, 231, 320, 321, 322, 323, 324, 423, 424, 425, 426, 427, 428, 429, 430, 431, 442, 443, 444, 445, 446, 432, 433, 434, 435] (by decide +kernel) (by decide +kernel)
set_option maxRecDepth 20000 in
theorem gL_law_L_isRow : GoodIn wsL_law (va_wsS RL 78 yL_isRow wsL_isRow) := goodIn_app (goodIn_of _ (by decide +kernel)) ggL_law_L_isRow
set_option maxRecDepth 20000 in
theorem ggL_law_X4_at : GoodIn wsL_law wsX4_at := goodIn_r _ [203, 12, 68, 115, 204, 423, 424, 425, 426, 427, 428, 429, 430, 431, 442, 443, 444, 445, 446] (by decide +kernel) (by decide +kernel)
set_option maxRecDepth 20000 in
theorem gL_law_X4_at : GoodIn wsL_law (wsV RL 18 RX4 yX4_at wsX4_at) := goodIn_app (goodIn_of _ (by decide +kernel)) ggL_law_X4_at
set_option maxRecDepth 20000 in
theorem ggL_law_L_isSeen : GoodIn wsL_law wsL_isSeen := goodIn_r _ [327, 205, 206, 207, 2, 208, 12, 68, 209, 116, 114, 210, 91, 92, 211, 212, 213, 214, 94, 95, 30, 96, 86, 39, 215, 151, 152, 153, 42, 93, 121, 122, 123, 124, 125, 126, 127, 128, 129, 130, 138, 139, 140, 141, 142, 143, 144, 145, 146, 147, 148, 149, 150, 154, 155, 156, 157, 38, 158, 159, 160, 161, 162, 163, 164, 165, 166, 167, 168, 169, 170, 171, 172, 173, 174, 175, 176, 177, 216, 217, 218, 219, 220, 221, 222, 223, 224, 225, 226, 227, 228, 229, 230, 231, 110, 111, 112, 113, 115, 73, 17, 117, 118, 119, 120, 131, 132, 133, 134, 135, 136, 137, 178, 179, 180, 181, 41, 182, 183, 184, 185, 186, 187, 188, 189, 11, 190, 34, 191, 192, 193, 16, 194, 195, 196, 197, 198, 199, 328, 329, 330, 331, 332, 333, 334, 423, 424, 425, 426, 427, 428, 429, 430, 431, 442, 443, 444, 445, 446, 432, 433, 434, 435] (by decide +kernel) (by decide +kernel)
set_option maxRecDepth 20000 in
theorem gL_law_L_isSeen : GoodIn wsL_law (va_wsS RL 82 yL_isSeen wsL_isSeen) := goodIn_app (goodIn_of _ (by decide +kernel)) ggL_law_L_isSeen
set_option maxRecDepth 20000 in
theorem ggL_law_L_isMean : GoodIn wsL_law wsL_isMean := goodIn_r _ [337, 110, 111, 112, 2, 113, 12, 68, 114, 115, 116, 73, 17, 117, 118, 119, 30, 120, 86, 42, 121, 122, 123, 124, 39, 125, 126, 127, 128, 129, 130, 131, 132, 133, 134, 135, 136, 137, 138, 139, 140, 141, 142, 143, 144, 145, 146, 147, 148, 149, 150, 151, 152, 153, 93, 94, 95, 96, 154, 155, 156, 157, 38, 158, 159, 160, 161, 162, 163, 164, 165, 166, 167, 168, 169, 170, 171, 172, 173, 174, 175, 176, 177, 178, 179, 180, 181, 41, 182, 183, 184, 185, 186, 187, 188, 189, 11, 190, 34, 191, 192, 193, 16, 194, 195, 196, 197, 198, 199, 320, 321, 322, 323, 210, 91, 92, 215, 324, 205, 206, 207, 208, 209, 211, 212, 213, 214, 216, 217, 218, 219, 220, 221, 222, 223, 224, 225, 226, 227, 228, 229, 230, 231, 423, 424, 425, 426, 427, 428, 429, 430, 431, 442, 443, 444, 445, 446, 432, 433, 434, 435] (by decide +kernel) (by decide +kernel)
set_option maxRecDepth 20000 in
theorem gL_law_L_isMean : GoodIn wsL_law (va_wsS RL 85 yL_isMean wsL_isMean) := goodIn_app (goodIn_of _ (by decide +kernel)) ggL_law_L_isMean
set_option maxRecDepth 20000 in
theorem ggL_law_X4_set : GoodIn wsL_law wsX4_set := goodIn_r _ [238, 12, 68, 69, 70, 71, 2, 72, 13, 73, 74, 75, 76, 11, 77, 31, 32, 34, 78, 79, 80, 30, 81, 38, 82, 83, 84, 85, 39, 86, 41, 42, 239, 240, 241, 242, 243, 244, 97, 98, 99, 100, 101, 102, 103, 104, 423, 424, 425, 426, 427, 428, 429, 430, 431, 442, 443, 444, 445, 446] (by decide +kernel) (by decide +kernel)
set_option maxRecDepth 20000 in
theorem gL_law_X4_set : GoodIn wsL_law (wsV RL 30 RX4 yX4_set wsX4_set) := goodIn_app (goodIn_of _ (by decide +kernel)) ggL_law_X4_set
set_option maxRecDepth 20000 in
theorem ggL_law_X4_exchange : GoodIn wsL_law wsX4_exchange := goodIn_r _ [266, 12, 68, 69, 70, 71, 2, 72, 13, 73, 74, 75, 76, 11, 77, 31, 32, 34, 78, 79, 80, 30, 81, 38, 82, 83, 84, 85, 39, 86, 41, 42, 267, 268, 269, 270, 271, 272, 273, 274, 275, 118, 119, 120, 121, 122, 123, 124, 125, 126, 127, 128, 129, 130, 97, 98, 99, 100, 101, 102, 103, 104, 423, 424, 425, 426, 427, 428, 429, 430, 431, 442, 443, 444, 445, 446] (by decide +kernel) (by decide +kernel)
set_option maxRecDepth 20000 in
theorem gL_law_X4_exchange : GoodIn wsL_law (wsV RL 39 RX4 yX4_exchange wsX4_exchange) := goodIn_app (goodIn_of _ (by decide +kernel)) ggL_law_X4_exchange
set_option maxRecDepth 20000 in
theorem ggL_law_X4_draw : GoodIn wsL_law wsX4_draw := goodIn_r _ [294, 12, 68, 69, 70, 71, 2, 72, 13, 73, 74, 75, 76, 11, 77, 31, 32, 34, 78, 79, 80, 30, 81, 38, 82, 83, 84, 85, 39, 86, 41, 42, 295, 296, 297, 298, 299, 91, 92, 300, 132, 133, 134, 135, 136, 137, 97, 98, 99, 100, 101, 102, 103, 104, 423, 424, 425, 426, 427, 428, 429, 430, 431, 442, 443, 444, 445, 446] (by decide +kernel) (by decide +kernel)
set_option maxRecDepth 20000 in
theorem gL_law_X4_draw : GoodIn wsL_law (wsV RL 45 RX4 yX4_draw wsX4_draw) := goodIn_app (goodIn_of _ (by decide +kernel)) ggL_law_X4_draw
set_option maxRecDepth 20000 in
theorem ggL_law_X4_restore : GoodIn wsL_law wsX4_restore := goodIn_r _ [341, 12, 69, 70, 71, 2, 72, 13, 73, 74, 75, 76, 11, 77, 31, 32, 34, 78, 79, 80, 30, 81, 38, 82, 83, 84, 85, 39, 86, 41, 42, 342, 343, 344, 345, 309, 310, 311, 312, 97, 98, 99, 100, 101, 102, 103, 104, 423, 424, 425, 426, 427, 428, 429, 430, 431, 442, 443, 444, 445, 446] (by decide +kernel) (by decide +kernel)
set_option maxRecDepth 20000 in
theorem gL_law_X4_restore : GoodIn wsL_law (wsV RL 89 RX4 yX4_restore wsX4_restore) := goodIn_app (goodIn_of _ (by decide +kernel)) ggL_law_X4_restore
set_option maxRecDepth 20000 in
theorem ggL_law_X4_ticks : GoodIn wsL_law wsX4_ticks := goodIn_r _ [349, 350, 253, 2, 254, 351, 288, 289, 290, 158, 159, 160, 161, 129, 162] (by decide +kernel) (by decide +kernel)
set_option maxRecDepth 20000 in
theorem gL_law_X4_ticks : GoodIn wsL_law (wsV RL 92 RX4 yX4_ticks wsX4_ticks) := goodIn_app (goodIn_of _ (by decide +kernel)) ggL_law_X4_ticks
set_option maxRecDepth 20000 in
theorem ggL_law_X4_bestStart : GoodIn wsL_law wsX4_bestStart := goodIn_r _ [355, 12, 68, 23, 114, 356, 357, 358, 30, 359, 41, 86, 39, 300, 132, 133, 134, 135, 136, 137, 360, 361, 362, 363, 364, 365, 366, 367, 42, 212, 2, 213, 150, 151, 152, 153, 93, 94, 95, 96, 121, 122, 123, 124, 125, 126, 127, 128, 129, 130, 146, 147, 148, 149, 154, 155, 156, 157, 38, 158, 159, 160, 161, 162, 163, 164, 165, 166, 167, 168, 169, 423, 424, 425, 426, 427, 428, 429, 430, 431, 442, 443, 444, 445, 446] (by decide +kernel) (by decide +kernel)
set_option maxRecDepth 20000 in
theorem gL_law_X4_bestStart : GoodIn wsL_law (wsV RL 95 RX4 yX4_bestStart wsX4_bestStart) := goodIn_app (goodIn_of _ (by decide +kernel)) ggL_law_X4_bestStart
set_option maxRecDepth 20000 in
theorem ggL_law_X4_leastTravel : GoodIn wsL_law wsX4_leastTravel := goodIn_r _ [371, 21, 12, 68, 372, 373, 374, 30, 375, 86, 39, 376, 377, 378, 20, 379, 380, 381, 382, 383, 384, 385, 52, 212, 2, 213, 386, 387, 388, 389, 54, 390, 391, 392, 393, 394, 395, 396, 397, 398, 399, 400, 401, 125, 126, 127, 128, 129, 130, 402, 403, 404, 405, 406, 55, 407, 408, 409, 410, 411, 412, 413, 414, 423, 424, 425, 426, 427, 428, 429, 430, 431, 442, 443, 444, 445, 446, 436, 437, 438, 439, 440, 441] (by decide +kernel) (by decide +kernel)
set_option maxRecDepth 20000 in
theorem gL_law_X4_leastTravel : GoodIn wsL_law (wsV RL 98 RX4 yX4_leastTravel wsX4_leastTravel) := goodIn_app (goodIn_of _ (by decide +kernel)) ggL_law_X4_leastTravel
set_option maxRecDepth 20000 in
theorem ggL_law_X4_longest : GoodIn wsL_law wsX4_longest := goodIn_r _ [418, 12, 68, 170, 171, 172, 30, 173, 42, 174, 175, 176, 177, 142, 143, 144, 145, 86, 39, 146, 147, 148, 149, 150, 151, 152, 153, 93, 94, 95, 96, 121, 122, 123, 124, 125, 2, 126, 127, 128, 129, 130, 154, 155, 156, 157, 38, 158, 159, 160, 161, 162, 163, 164, 165, 166, 167, 168, 169, 178, 179, 180, 181, 41, 423, 424, 425, 426, 427, 428, 429, 430, 431, 442, 443, 444, 445, 446] (by decide +kernel) (by decide +kernel)
set_option maxRecDepth 20000 in
theorem gL_law_X4_longest : GoodIn wsL_law (wsV RL 101 RX4 yX4_longest wsX4_longest) := goodIn_app (goodIn_of _ (by decide +kernel)) ggL_law_X4_longest
set_option maxRecDepth 20000 in
theorem ggL_law_X4_shortestPeriod : GoodIn wsL_law wsX4_shortestPeriod := goodIn_r _ [422, 12, 68, 115, 160, 161, 129, 162, 186, 122, 123, 30, 124, 86, 39, 42, 125, 2, 126, 127, 128, 130, 423, 424, 425, 426, 427, 428, 429, 430, 431, 442, 443, 444, 445, 446] (by decide +kernel) (by decide +kernel)
set_option maxRecDepth 20000 in
theorem gL_law_X4_shortestPeriod : GoodIn wsL_law (wsV RL 104 RX4 yX4_shortestPeriod wsX4_shortestPeriod) := goodIn_app (goodIn_of _ (by decide +kernel)) ggL_law_X4_shortestPeriod
theorem dL_law_0 : decode cL_law 0 = .ok (.new 13, 3) := by decide +kernel
theorem dL_law_3 : decode cL_law 3 = .ok (.dup, 1) := by decide +kernel
theorem dL_law_4 : decode cL_law 4 = .ok (.invokespecial 61, 3) := by decide +kernel
theorem dL_law_7 : decode cL_law 7 = .ok (.astore_n 1, 1) := by decide +kernel
theorem dL_law_8 : decode cL_law 8 = .ok (.aload_n 0, 1) := by decide +kernel
theorem dL_law_9 : decode cL_law 9 = .ok (.iconst 0, 1) := by decide +kernel
theorem dL_law_10 : decode cL_law 10 = .ok (.invokestatic 62, 3) := by decide +kernel
theorem dL_law_13 : decode cL_law 13 = .ok (.istore_n 2, 1) := by decide +kernel
theorem dL_law_14 : decode cL_law 14 = .ok (.aload_n 1, 1) := by decide +kernel
theorem dL_law_15 : decode cL_law 15 = .ok (.iload_n 2, 1) := by decide +kernel
theorem dL_law_16 : decode cL_law 16 = .ok (.bipush 64, 2) := by decide +kernel
theorem dL_law_18 : decode cL_law 18 = .ok (.invokestatic 25, 3) := by decide +kernel
theorem dL_law_21 : decode cL_law 21 = .ok (.invokevirtual 52, 3) := by decide +kernel
theorem dL_law_24 : decode cL_law 24 = .ok (.pop, 1) := by decide +kernel
theorem dL_law_25 : decode cL_law 25 = .ok (.aload_n 1, 1) := by decide +kernel
theorem dL_law_26 : decode cL_law 26 = .ok (.iconst 1, 1) := by decide +kernel
theorem dL_law_27 : decode cL_law 27 = .ok (.iload_n 2, 1) := by decide +kernel
theorem dL_law_28 : decode cL_law 28 = .ok (.bipush 64, 2) := by decide +kernel
theorem dL_law_30 : decode cL_law 30 = .ok (.invokestatic 25, 3) := by decide +kernel
theorem dL_law_33 : decode cL_law 33 = .ok (.iadd, 1) := by decide +kernel
theorem dL_law_34 : decode cL_law 34 = .ok (.iload_n 2, 1) := by decide +kernel
theorem dL_law_35 : decode cL_law 35 = .ok (.bipush 6, 2) := by decide +kernel
theorem dL_law_37 : decode cL_law 37 = .ok (.ishr, 1) := by decide +kernel
theorem dL_law_38 : decode cL_law 38 = .ok (.bipush 63, 2) := by decide +kernel
theorem dL_law_40 : decode cL_law 40 = .ok (.invokestatic 25, 3) := by decide +kernel
theorem dL_law_43 : decode cL_law 43 = .ok (.iadd, 1) := by decide +kernel
theorem dL_law_44 : decode cL_law 44 = .ok (.bipush 64, 2) := by decide +kernel
theorem dL_law_46 : decode cL_law 46 = .ok (.irem, 1) := by decide +kernel
theorem dL_law_47 : decode cL_law 47 = .ok (.invokevirtual 52, 3) := by decide +kernel
theorem dL_law_50 : decode cL_law 50 = .ok (.pop, 1) := by decide +kernel
theorem dL_law_51 : decode cL_law 51 = .ok (.iconst 1, 1) := by decide +kernel
theorem dL_law_52 : decode cL_law 52 = .ok (.istore_n 3, 1) := by decide +kernel
theorem dL_law_53 : decode cL_law 53 = .ok (.iload_n 3, 1) := by decide +kernel
theorem dL_law_54 : decode cL_law 54 = .ok (.bipush 18, 2) := by decide +kernel
theorem dL_law_56 : decode cL_law 56 = .ok (.if_icmp .ge 123, 3) := by decide +kernel
theorem dL_law_59 : decode cL_law 59 = .ok (.aload_n 0, 1) := by decide +kernel
theorem dL_law_60 : decode cL_law 60 = .ok (.iload_n 3, 1) := by decide +kernel
theorem dL_law_61 : decode cL_law 61 = .ok (.invokestatic 62, 3) := by decide +kernel
theorem dL_law_64 : decode cL_law 64 = .ok (.istore 4, 2) := by decide +kernel
theorem dL_law_66 : decode cL_law 66 = .ok (.aload_n 1, 1) := by decide +kernel
theorem dL_law_67 : decode cL_law 67 = .ok (.invokestatic 66, 3) := by decide +kernel
theorem dL_law_70 : decode cL_law 70 = .ok (.lstore 5, 2) := by decide +kernel
theorem dL_law_72 : decode cL_law 72 = .ok (.aload_n 1, 1) := by decide +kernel
theorem dL_law_73 : decode cL_law 73 = .ok (.iconst 0, 1) := by decide +kernel
theorem dL_law_74 : decode cL_law 74 = .ok (.invokevirtual 12, 3) := by decide +kernel
theorem dL_law_77 : decode cL_law 77 = .ok (.istore 7, 2) := by decide +kernel
theorem dL_law_79 : decode cL_law 79 = .ok (.aload_n 1, 1) := by decide +kernel
theorem dL_law_80 : decode cL_law 80 = .ok (.iload 4, 2) := by decide +kernel
theorem dL_law_82 : decode cL_law 82 = .ok (.invokestatic 70, 3) := by decide +kernel
theorem dL_law_85 : decode cL_law 85 = .ok (.istore 8, 2) := by decide +kernel
theorem dL_law_87 : decode cL_law 87 = .ok (.iload 8, 2) := by decide +kernel
theorem dL_law_89 : decode cL_law 89 = .ok (.ifCond .ge 15, 3) := by decide +kernel
theorem dL_law_92 : decode cL_law 92 = .ok (.aload_n 1, 1) := by decide +kernel
theorem dL_law_93 : decode cL_law 93 = .ok (.invokestatic 66, 3) := by decide +kernel
theorem dL_law_96 : decode cL_law 96 = .ok (.lload 5, 2) := by decide +kernel
theorem dL_law_98 : decode cL_law 98 = .ok (.lcmp, 1) := by decide +kernel
theorem dL_law_99 : decode cL_law 99 = .ok (.ifCond .eq 5, 3) := by decide +kernel
theorem dL_law_102 : decode cL_law 102 = .ok (.iconst 0, 1) := by decide +kernel
theorem dL_law_103 : decode cL_law 103 = .ok (.ireturn, 1) := by decide +kernel
theorem dL_law_104 : decode cL_law 104 = .ok (.iload 8, 2) := by decide +kernel
theorem dL_law_106 : decode cL_law 106 = .ok (.ifCond .lt 38, 3) := by decide +kernel
theorem dL_law_109 : decode cL_law 109 = .ok (.iload_n 3, 1) := by decide +kernel
theorem dL_law_110 : decode cL_law 110 = .ok (.iconst 3, 1) := by decide +kernel
theorem dL_law_111 : decode cL_law 111 = .ok (.iand, 1) := by decide +kernel
theorem dL_law_112 : decode cL_law 112 = .ok (.iconst 2, 1) := by decide +kernel
theorem dL_law_113 : decode cL_law 113 = .ok (.if_icmp .ne 31, 3) := by decide +kernel
theorem dL_law_116 : decode cL_law 116 = .ok (.aload_n 1, 1) := by decide +kernel
theorem dL_law_117 : decode cL_law 117 = .ok (.invokevirtual 74, 3) := by decide +kernel
theorem dL_law_120 : decode cL_law 120 = .ok (.pop, 1) := by decide +kernel
theorem dL_law_121 : decode cL_law 121 = .ok (.aload_n 1, 1) := by decide +kernel
theorem dL_law_122 : decode cL_law 122 = .ok (.invokestatic 66, 3) := by decide +kernel
theorem dL_law_125 : decode cL_law 125 = .ok (.lload 5, 2) := by decide +kernel
theorem dL_law_127 : decode cL_law 127 = .ok (.lcmp, 1) := by decide +kernel
theorem dL_law_128 : decode cL_law 128 = .ok (.ifCond .ne 14, 3) := by decide +kernel
theorem dL_law_131 : decode cL_law 131 = .ok (.aload_n 1, 1) := by decide +kernel
theorem dL_law_132 : decode cL_law 132 = .ok (.iload 4, 2) := by decide +kernel
theorem dL_law_134 : decode cL_law 134 = .ok (.invokestatic 70, 3) := by decide +kernel
theorem dL_law_137 : decode cL_law 137 = .ok (.iload 8, 2) := by decide +kernel
theorem dL_law_139 : decode cL_law 139 = .ok (.if_icmp .eq 5, 3) := by decide +kernel
theorem dL_law_142 : decode cL_law 142 = .ok (.iconst 0, 1) := by decide +kernel
theorem dL_law_143 : decode cL_law 143 = .ok (.ireturn, 1) := by decide +kernel
theorem dL_law_144 : decode cL_law 144 = .ok (.iload 4, 2) := by decide +kernel
theorem dL_law_146 : decode cL_law 146 = .ok (.bipush 15, 2) := by decide +kernel
theorem dL_law_148 : decode cL_law 148 = .ok (.iand, 1) := by decide +kernel
theorem dL_law_149 : decode cL_law 149 = .ok (.bipush 9, 2) := by decide +kernel
theorem dL_law_151 : decode cL_law 151 = .ok (.if_icmp .ne 13, 3) := by decide +kernel
theorem dL_law_154 : decode cL_law 154 = .ok (.aload_n 1, 1) := by decide +kernel
theorem dL_law_155 : decode cL_law 155 = .ok (.iconst 0, 1) := by decide +kernel
theorem dL_law_156 : decode cL_law 156 = .ok (.invokevirtual 12, 3) := by decide +kernel
theorem dL_law_159 : decode cL_law 159 = .ok (.iload 7, 2) := by decide +kernel
theorem dL_law_161 : decode cL_law 161 = .ok (.if_icmp .ne 10, 3) := by decide +kernel
theorem dL_law_164 : decode cL_law 164 = .ok (.aload_n 1, 1) := by decide +kernel
theorem dL_law_165 : decode cL_law 165 = .ok (.invokestatic 78, 3) := by decide +kernel
theorem dL_law_168 : decode cL_law 168 = .ok (.ifCond .ne 5, 3) := by decide +kernel
theorem dL_law_171 : decode cL_law 171 = .ok (.iconst 0, 1) := by decide +kernel
theorem dL_law_172 : decode cL_law 172 = .ok (.ireturn, 1) := by decide +kernel
theorem dL_law_173 : decode cL_law 173 = .ok (.iinc 3 1, 3) := by decide +kernel
theorem dL_law_176 : decode cL_law 176 = .ok (.goto (-123), 3) := by decide +kernel
theorem dL_law_179 : decode cL_law 179 = .ok (.aload_n 1, 1) := by decide +kernel
theorem dL_law_180 : decode cL_law 180 = .ok (.iconst 0, 1) := by decide +kernel
theorem dL_law_181 : decode cL_law 181 = .ok (.invokevirtual 12, 3) := by decide +kernel
theorem dL_law_184 : decode cL_law 184 = .ok (.ifCond .le 21, 3) := by decide +kernel
theorem dL_law_187 : decode cL_law 187 = .ok (.aload_n 1, 1) := by decide +kernel
theorem dL_law_188 : decode cL_law 188 = .ok (.iload_n 2, 1) := by decide +kernel
theorem dL_law_189 : decode cL_law 189 = .ok (.iconst 4, 1) := by decide +kernel
theorem dL_law_190 : decode cL_law 190 = .ok (.ishr, 1) := by decide +kernel
theorem dL_law_191 : decode cL_law 191 = .ok (.aload_n 1, 1) := by decide +kernel
theorem dL_law_192 : decode cL_law 192 = .ok (.iconst 0, 1) := by decide +kernel
theorem dL_law_193 : decode cL_law 193 = .ok (.invokevirtual 12, 3) := by decide +kernel
theorem dL_law_196 : decode cL_law 196 = .ok (.invokestatic 25, 3) := by decide +kernel
theorem dL_law_199 : decode cL_law 199 = .ok (.invokevirtual 18, 3) := by decide +kernel
theorem dL_law_202 : decode cL_law 202 = .ok (.goto 4, 3) := by decide +kernel
theorem dL_law_205 : decode cL_law 205 = .ok (.iconst 0, 1) := by decide +kernel
theorem dL_law_206 : decode cL_law 206 = .ok (.istore_n 3, 1) := by decide +kernel
theorem dL_law_207 : decode cL_law 207 = .ok (.aload_n 1, 1) := by decide +kernel
theorem dL_law_208 : decode cL_law 208 = .ok (.invokestatic 82, 3) := by decide +kernel
theorem dL_law_211 : decode cL_law 211 = .ok (.ifCond .eq 27, 3) := by decide +kernel
theorem dL_law_214 : decode cL_law 214 = .ok (.aload_n 1, 1) := by decide +kernel
theorem dL_law_215 : decode cL_law 215 = .ok (.iload_n 3, 1) := by decide +kernel
theorem dL_law_216 : decode cL_law 216 = .ok (.invokestatic 85, 3) := by decide +kernel
theorem dL_law_219 : decode cL_law 219 = .ok (.ifCond .eq 19, 3) := by decide +kernel
theorem dL_law_222 : decode cL_law 222 = .ok (.aload_n 1, 1) := by decide +kernel
theorem dL_law_223 : decode cL_law 223 = .ok (.iload_n 2, 1) := by decide +kernel
theorem dL_law_224 : decode cL_law 224 = .ok (.bipush 9, 2) := by decide +kernel
theorem dL_law_226 : decode cL_law 226 = .ok (.ishr, 1) := by decide +kernel
theorem dL_law_227 : decode cL_law 227 = .ok (.bipush 64, 2) := by decide +kernel
theorem dL_law_229 : decode cL_law 229 = .ok (.invokestatic 25, 3) := by decide +kernel
theorem dL_law_232 : decode cL_law 232 = .ok (.invokestatic 85, 3) := by decide +kernel
theorem dL_law_235 : decode cL_law 235 = .ok (.ifCond .ne 5, 3) := by decide +kernel
theorem dL_law_238 : decode cL_law 238 = .ok (.iconst 0, 1) := by decide +kernel
theorem dL_law_239 : decode cL_law 239 = .ok (.ireturn, 1) := by decide +kernel
theorem dL_law_240 : decode cL_law 240 = .ok (.aload_n 1, 1) := by decide +kernel
theorem dL_law_241 : decode cL_law 241 = .ok (.invokestatic 66, 3) := by decide +kernel
theorem dL_law_244 : decode cL_law 244 = .ok (.lstore 4, 2) := by decide +kernel
theorem dL_law_246 : decode cL_law 246 = .ok (.aload_n 1, 1) := by decide +kernel
theorem dL_law_247 : decode cL_law 247 = .ok (.iconst 0, 1) := by decide +kernel
theorem dL_law_248 : decode cL_law 248 = .ok (.bipush 7, 2) := by decide +kernel
theorem dL_law_250 : decode cL_law 250 = .ok (.invokevirtual 30, 3) := by decide +kernel
theorem dL_law_253 : decode cL_law 253 = .ok (.iconst (-1), 1) := by decide +kernel
theorem dL_law_254 : decode cL_law 254 = .ok (.if_icmp .ne 84, 3) := by decide +kernel
theorem dL_law_257 : decode cL_law 257 = .ok (.aload_n 1, 1) := by decide +kernel
theorem dL_law_258 : decode cL_law 258 = .ok (.bipush 6, 2) := by decide +kernel
theorem dL_law_260 : decode cL_law 260 = .ok (.iconst 1, 1) := by decide +kernel
theorem dL_law_261 : decode cL_law 261 = .ok (.invokevirtual 30, 3) := by decide +kernel
theorem dL_law_264 : decode cL_law 264 = .ok (.iconst (-1), 1) := by decide +kernel
theorem dL_law_265 : decode cL_law 265 = .ok (.if_icmp .ne 73, 3) := by decide +kernel
theorem dL_law_268 : decode cL_law 268 = .ok (.aload_n 1, 1) := by decide +kernel
theorem dL_law_269 : decode cL_law 269 = .ok (.bipush 64, 2) := by decide +kernel
theorem dL_law_271 : decode cL_law 271 = .ok (.invokevirtual 52, 3) := by decide +kernel
theorem dL_law_274 : decode cL_law 274 = .ok (.iconst (-1), 1) := by decide +kernel
theorem dL_law_275 : decode cL_law 275 = .ok (.if_icmp .ne 63, 3) := by decide +kernel
theorem dL_law_278 : decode cL_law 278 = .ok (.aload_n 1, 1) := by decide +kernel
theorem dL_law_279 : decode cL_law 279 = .ok (.bipush 12, 2) := by decide +kernel
theorem dL_law_281 : decode cL_law 281 = .ok (.iconst 0, 1) := by decide +kernel
theorem dL_law_282 : decode cL_law 282 = .ok (.invokevirtual 39, 3) := by decide +kernel
theorem dL_law_285 : decode cL_law 285 = .ok (.iconst (-1), 1) := by decide +kernel
theorem dL_law_286 : decode cL_law 286 = .ok (.if_icmp .ne 52, 3) := by decide +kernel
theorem dL_law_289 : decode cL_law 289 = .ok (.aload_n 1, 1) := by decide +kernel
theorem dL_law_290 : decode cL_law 290 = .ok (.iconst 2, 1) := by decide +kernel
theorem dL_law_291 : decode cL_law 291 = .ok (.iconst 0, 1) := by decide +kernel
theorem dL_law_292 : decode cL_law 292 = .ok (.iconst 0, 1) := by decide +kernel
theorem dL_law_293 : decode cL_law 293 = .ok (.invokevirtual 45, 3) := by decide +kernel
theorem dL_law_296 : decode cL_law 296 = .ok (.iconst (-1), 1) := by decide +kernel
theorem dL_law_297 : decode cL_law 297 = .ok (.if_icmp .ne 41, 3) := by decide +kernel
theorem dL_law_300 : decode cL_law 300 = .ok (.aload_n 1, 1) := by decide +kernel
theorem dL_law_301 : decode cL_law 301 = .ok (.iconst 2, 1) := by decide +kernel
theorem dL_law_302 : decode cL_law 302 = .ok (.invokevirtual 89, 3) := by decide +kernel
theorem dL_law_305 : decode cL_law 305 = .ok (.iconst (-1), 1) := by decide +kernel
theorem dL_law_306 : decode cL_law 306 = .ok (.if_icmp .ne 32, 3) := by decide +kernel
theorem dL_law_309 : decode cL_law 309 = .ok (.aload_n 1, 1) := by decide +kernel
theorem dL_law_310 : decode cL_law 310 = .ok (.iconst 0, 1) := by decide +kernel
theorem dL_law_311 : decode cL_law 311 = .ok (.iconst 0, 1) := by decide +kernel
theorem dL_law_312 : decode cL_law 312 = .ok (.invokevirtual 92, 3) := by decide +kernel
theorem dL_law_315 : decode cL_law 315 = .ok (.iconst (-1), 1) := by decide +kernel
theorem dL_law_316 : decode cL_law 316 = .ok (.if_icmp .ne 22, 3) := by decide +kernel
theorem dL_law_319 : decode cL_law 319 = .ok (.aload_n 1, 1) := by decide +kernel
theorem dL_law_320 : decode cL_law 320 = .ok (.iconst (-1), 1) := by decide +kernel
theorem dL_law_321 : decode cL_law 321 = .ok (.invokevirtual 18, 3) := by decide +kernel
theorem dL_law_324 : decode cL_law 324 = .ok (.iconst (-1), 1) := by decide +kernel
theorem dL_law_325 : decode cL_law 325 = .ok (.if_icmp .ne 13, 3) := by decide +kernel
theorem dL_law_328 : decode cL_law 328 = .ok (.aload_n 1, 1) := by decide +kernel
theorem dL_law_329 : decode cL_law 329 = .ok (.invokestatic 66, 3) := by decide +kernel
theorem dL_law_332 : decode cL_law 332 = .ok (.lload 4, 2) := by decide +kernel
theorem dL_law_334 : decode cL_law 334 = .ok (.lcmp, 1) := by decide +kernel
theorem dL_law_335 : decode cL_law 335 = .ok (.ifCond .eq 5, 3) := by decide +kernel
theorem dL_law_338 : decode cL_law 338 = .ok (.iconst 0, 1) := by decide +kernel
theorem dL_law_339 : decode cL_law 339 = .ok (.ireturn, 1) := by decide +kernel
theorem dL_law_340 : decode cL_law 340 = .ok (.aload_n 1, 1) := by decide +kernel
theorem dL_law_341 : decode cL_law 341 = .ok (.iconst 1, 1) := by decide +kernel
theorem dL_law_342 : decode cL_law 342 = .ok (.invokevirtual 95, 3) := by decide +kernel
theorem dL_law_345 : decode cL_law 345 = .ok (.istore 6, 2) := by decide +kernel
theorem dL_law_347 : decode cL_law 347 = .ok (.aload_n 1, 1) := by decide +kernel
theorem dL_law_348 : decode cL_law 348 = .ok (.iconst 0, 1) := by decide +kernel
theorem dL_law_349 : decode cL_law 349 = .ok (.invokevirtual 95, 3) := by decide +kernel
theorem dL_law_352 : decode cL_law 352 = .ok (.istore 7, 2) := by decide +kernel
theorem dL_law_354 : decode cL_law 354 = .ok (.iload 6, 2) := by decide +kernel
theorem dL_law_356 : decode cL_law 356 = .ok (.aload_n 1, 1) := by decide +kernel
theorem dL_law_357 : decode cL_law 357 = .ok (.bipush 7, 2) := by decide +kernel
theorem dL_law_359 : decode cL_law 359 = .ok (.invokevirtual 12, 3) := by decide +kernel
theorem dL_law_362 : decode cL_law 362 = .ok (.if_icmp .gt 28, 3) := by decide +kernel
theorem dL_law_365 : decode cL_law 365 = .ok (.iload 7, 2) := by decide +kernel
theorem dL_law_367 : decode cL_law 367 = .ok (.aload_n 1, 1) := by decide +kernel
theorem dL_law_368 : decode cL_law 368 = .ok (.bipush 13, 2) := by decide +kernel
theorem dL_law_370 : decode cL_law 370 = .ok (.invokevirtual 12, 3) := by decide +kernel
theorem dL_law_373 : decode cL_law 373 = .ok (.if_icmp .ge 17, 3) := by decide +kernel
theorem dL_law_376 : decode cL_law 376 = .ok (.aload_n 1, 1) := by decide +kernel
theorem dL_law_377 : decode cL_law 377 = .ok (.iconst (-1), 1) := by decide +kernel
theorem dL_law_378 : decode cL_law 378 = .ok (.invokevirtual 98, 3) := by decide +kernel
theorem dL_law_381 : decode cL_law 381 = .ok (.aload_n 1, 1) := by decide +kernel
theorem dL_law_382 : decode cL_law 382 = .ok (.bipush 8, 2) := by decide +kernel
theorem dL_law_384 : decode cL_law 384 = .ok (.invokevirtual 12, 3) := by decide +kernel
theorem dL_law_387 : decode cL_law 387 = .ok (.if_icmp .le 5, 3) := by decide +kernel
theorem dL_law_390 : decode cL_law 390 = .ok (.iconst 0, 1) := by decide +kernel
theorem dL_law_391 : decode cL_law 391 = .ok (.ireturn, 1) := by decide +kernel
theorem dL_law_392 : decode cL_law 392 = .ok (.aload_n 1, 1) := by decide +kernel
theorem dL_law_393 : decode cL_law 393 = .ok (.invokevirtual 101, 3) := by decide +kernel
theorem dL_law_396 : decode cL_law 396 = .ok (.istore 8, 2) := by decide +kernel
theorem dL_law_398 : decode cL_law 398 = .ok (.iload 8, 2) := by decide +kernel
theorem dL_law_400 : decode cL_law 400 = .ok (.ifCond .le 29, 3) := by decide +kernel
theorem dL_law_403 : decode cL_law 403 = .ok (.aload_n 1, 1) := by decide +kernel
theorem dL_law_404 : decode cL_law 404 = .ok (.iconst 4, 1) := by decide +kernel
theorem dL_law_405 : decode cL_law 405 = .ok (.iload 8, 2) := by decide +kernel
theorem dL_law_407 : decode cL_law 407 = .ok (.invokevirtual 30, 3) := by decide +kernel
theorem dL_law_410 : decode cL_law 410 = .ok (.pop, 1) := by decide +kernel
theorem dL_law_411 : decode cL_law 411 = .ok (.aload_n 1, 1) := by decide +kernel
theorem dL_law_412 : decode cL_law 412 = .ok (.bipush 7, 2) := by decide +kernel
theorem dL_law_414 : decode cL_law 414 = .ok (.invokevirtual 12, 3) := by decide +kernel
theorem dL_law_417 : decode cL_law 417 = .ok (.ifCond .ne 10, 3) := by decide +kernel
theorem dL_law_420 : decode cL_law 420 = .ok (.aload_n 1, 1) := by decide +kernel
theorem dL_law_421 : decode cL_law 421 = .ok (.invokevirtual 74, 3) := by decide +kernel
theorem dL_law_424 : decode cL_law 424 = .ok (.ifCond .ge 5, 3) := by decide +kernel
theorem dL_law_427 : decode cL_law 427 = .ok (.iconst 0, 1) := by decide +kernel
theorem dL_law_428 : decode cL_law 428 = .ok (.ireturn, 1) := by decide +kernel
theorem dL_law_429 : decode cL_law 429 = .ok (.aload_n 1, 1) := by decide +kernel
theorem dL_law_430 : decode cL_law 430 = .ok (.iconst 3, 1) := by decide +kernel
theorem dL_law_431 : decode cL_law 431 = .ok (.iload 7, 2) := by decide +kernel
theorem dL_law_433 : decode cL_law 433 = .ok (.invokevirtual 30, 3) := by decide +kernel
theorem dL_law_436 : decode cL_law 436 = .ok (.pop, 1) := by decide +kernel
theorem dL_law_437 : decode cL_law 437 = .ok (.aload_n 1, 1) := by decide +kernel
theorem dL_law_438 : decode cL_law 438 = .ok (.bipush 7, 2) := by decide +kernel
theorem dL_law_440 : decode cL_law 440 = .ok (.invokevirtual 12, 3) := by decide +kernel
theorem dL_law_443 : decode cL_law 443 = .ok (.iload 6, 2) := by decide +kernel
theorem dL_law_445 : decode cL_law 445 = .ok (.if_icmp .eq 5, 3) := by decide +kernel
theorem dL_law_448 : decode cL_law 448 = .ok (.iconst 0, 1) := by decide +kernel
theorem dL_law_449 : decode cL_law 449 = .ok (.ireturn, 1) := by decide +kernel
theorem dL_law_450 : decode cL_law 450 = .ok (.aload_n 1, 1) := by decide +kernel
theorem dL_law_451 : decode cL_law 451 = .ok (.invokevirtual 104, 3) := by decide +kernel
theorem dL_law_454 : decode cL_law 454 = .ok (.istore 9, 2) := by decide +kernel
theorem dL_law_456 : decode cL_law 456 = .ok (.iload 9, 2) := by decide +kernel
theorem dL_law_458 : decode cL_law 458 = .ok (.ifCond .le 58, 3) := by decide +kernel
theorem dL_law_461 : decode cL_law 461 = .ok (.aload_n 1, 1) := by decide +kernel
theorem dL_law_462 : decode cL_law 462 = .ok (.iconst 0, 1) := by decide +kernel
theorem dL_law_463 : decode cL_law 463 = .ok (.iload 9, 2) := by decide +kernel
theorem dL_law_465 : decode cL_law 465 = .ok (.invokevirtual 30, 3) := by decide +kernel
theorem dL_law_468 : decode cL_law 468 = .ok (.pop, 1) := by decide +kernel
theorem dL_law_469 : decode cL_law 469 = .ok (.aload_n 1, 1) := by decide +kernel
theorem dL_law_470 : decode cL_law 470 = .ok (.iconst 1, 1) := by decide +kernel
theorem dL_law_471 : decode cL_law 471 = .ok (.invokevirtual 12, 3) := by decide +kernel
theorem dL_law_474 : decode cL_law 474 = .ok (.aload_n 1, 1) := by decide +kernel
theorem dL_law_475 : decode cL_law 475 = .ok (.iconst 0, 1) := by decide +kernel
theorem dL_law_476 : decode cL_law 476 = .ok (.invokevirtual 12, 3) := by decide +kernel
theorem dL_law_479 : decode cL_law 479 = .ok (.if_icmp .eq 5, 3) := by decide +kernel
theorem dL_law_482 : decode cL_law 482 = .ok (.iconst 0, 1) := by decide +kernel
theorem dL_law_483 : decode cL_law 483 = .ok (.ireturn, 1) := by decide +kernel
theorem dL_law_484 : decode cL_law 484 = .ok (.iload 9, 2) := by decide +kernel
theorem dL_law_486 : decode cL_law 486 = .ok (.bipush 8, 2) := by decide +kernel
theorem dL_law_488 : decode cL_law 488 = .ok (.if_icmp .le 28, 3) := by decide +kernel
theorem dL_law_491 : decode cL_law 491 = .ok (.aload_n 1, 1) := by decide +kernel
theorem dL_law_492 : decode cL_law 492 = .ok (.iconst 0, 1) := by decide +kernel
theorem dL_law_493 : decode cL_law 493 = .ok (.iload 9, 2) := by decide +kernel
theorem dL_law_495 : decode cL_law 495 = .ok (.iconst 1, 1) := by decide +kernel
theorem dL_law_496 : decode cL_law 496 = .ok (.isub, 1) := by decide +kernel
theorem dL_law_497 : decode cL_law 497 = .ok (.invokevirtual 30, 3) := by decide +kernel
theorem dL_law_500 : decode cL_law 500 = .ok (.pop, 1) := by decide +kernel
theorem dL_law_501 : decode cL_law 501 = .ok (.aload_n 1, 1) := by decide +kernel
theorem dL_law_502 : decode cL_law 502 = .ok (.iconst 1, 1) := by decide +kernel
theorem dL_law_503 : decode cL_law 503 = .ok (.invokevirtual 12, 3) := by decide +kernel
theorem dL_law_506 : decode cL_law 506 = .ok (.aload_n 1, 1) := by decide +kernel
theorem dL_law_507 : decode cL_law 507 = .ok (.iconst 0, 1) := by decide +kernel
theorem dL_law_508 : decode cL_law 508 = .ok (.invokevirtual 12, 3) := by decide +kernel
theorem dL_law_511 : decode cL_law 511 = .ok (.if_icmp .ne 5, 3) := by decide +kernel
theorem dL_law_514 : decode cL_law 514 = .ok (.iconst 0, 1) := by decide +kernel
theorem dL_law_515 : decode cL_law 515 = .ok (.ireturn, 1) := by decide +kernel
theorem dL_law_516 : decode cL_law 516 = .ok (.aload_n 1, 1) := by decide +kernel
theorem dL_law_517 : decode cL_law 517 = .ok (.invokestatic 78, 3) := by decide +kernel
theorem dL_law_520 : decode cL_law 520 = .ok (.ifCond .eq 57, 3) := by decide +kernel
theorem dL_law_523 : decode cL_law 523 = .ok (.aload_n 1, 1) := by decide +kernel
theorem dL_law_524 : decode cL_law 524 = .ok (.invokestatic 82, 3) := by decide +kernel
theorem dL_law_527 : decode cL_law 527 = .ok (.ifCond .eq 50, 3) := by decide +kernel
theorem dL_law_530 : decode cL_law 530 = .ok (.aload_n 1, 1) := by decide +kernel
theorem dL_law_531 : decode cL_law 531 = .ok (.iconst 0, 1) := by decide +kernel
theorem dL_law_532 : decode cL_law 532 = .ok (.iconst 1, 1) := by decide +kernel
theorem dL_law_533 : decode cL_law 533 = .ok (.invokevirtual 92, 3) := by decide +kernel
theorem dL_law_536 : decode cL_law 536 = .ok (.iconst 5, 1) := by decide +kernel
theorem dL_law_537 : decode cL_law 537 = .ok (.if_icmp .ne 40, 3) := by decide +kernel
theorem dL_law_540 : decode cL_law 540 = .ok (.aload_n 1, 1) := by decide +kernel
theorem dL_law_541 : decode cL_law 541 = .ok (.iconst 1, 1) := by decide +kernel
theorem dL_law_542 : decode cL_law 542 = .ok (.iconst 1, 1) := by decide +kernel
theorem dL_law_543 : decode cL_law 543 = .ok (.invokevirtual 92, 3) := by decide +kernel
theorem dL_law_546 : decode cL_law 546 = .ok (.bipush 25, 2) := by decide +kernel
theorem dL_law_548 : decode cL_law 548 = .ok (.if_icmp .ne 29, 3) := by decide +kernel
theorem dL_law_551 : decode cL_law 551 = .ok (.aload_n 1, 1) := by decide +kernel
theorem dL_law_552 : decode cL_law 552 = .ok (.iconst 2, 1) := by decide +kernel
theorem dL_law_553 : decode cL_law 553 = .ok (.iconst 1, 1) := by decide +kernel
theorem dL_law_554 : decode cL_law 554 = .ok (.invokevirtual 92, 3) := by decide +kernel
theorem dL_law_557 : decode cL_law 557 = .ok (.bipush 35, 2) := by decide +kernel
theorem dL_law_559 : decode cL_law 559 = .ok (.if_icmp .ne 18, 3) := by decide +kernel
theorem dL_law_562 : decode cL_law 562 = .ok (.aload_n 1, 1) := by decide +kernel
theorem dL_law_563 : decode cL_law 563 = .ok (.iconst 3, 1) := by decide +kernel
theorem dL_law_564 : decode cL_law 564 = .ok (.iconst 1, 1) := by decide +kernel
theorem dL_law_565 : decode cL_law 565 = .ok (.invokevirtual 92, 3) := by decide +kernel
theorem dL_law_568 : decode cL_law 568 = .ok (.bipush 8, 2) := by decide +kernel
theorem dL_law_570 : decode cL_law 570 = .ok (.if_icmp .ne 7, 3) := by decide +kernel
theorem dL_law_573 : decode cL_law 573 = .ok (.iconst 1, 1) := by decide +kernel
theorem dL_law_574 : decode cL_law 574 = .ok (.goto 4, 3) := by decide +kernel
theorem dL_law_577 : decode cL_law 577 = .ok (.iconst 0, 1) := by decide +kernel
theorem dL_law_578 : decode cL_law 578 = .ok (.ireturn, 1) := by decide +kernel
abbrev vwCl : List vw_C := [(RX0, TX0, 4), (RX1, TX1, 5), (RX2, TX2, 3), (RX3, TX3, 6), (RX4, TX4, 6)]
end
