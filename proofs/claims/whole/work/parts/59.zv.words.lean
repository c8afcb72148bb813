/-! Functions: words of 64 bits, and the numbers of the words that are kept -/
def WB (x : Int64) (i : Nat) : Bool := x.toBitVec.getLsbD i
theorem w_ext {x y : Int64} (h : ∀ i : Nat, i < 64 → WB x i = WB y i) : x = y := Int64.toBitVec_inj.mp (BitVec.eq_of_getLsbD_eq (fun i hi => h i hi))
theorem w_or (x y : Int64) (i : Nat) : WB (x ||| y) i = (WB x i || WB y i) := by unfold WB; rw [Int64.toBitVec_or, BitVec.getLsbD_or]
theorem w_and (x y : Int64) (i : Nat) : WB (x &&& y) i = (WB x i && WB y i) := by unfold WB; rw [Int64.toBitVec_and, BitVec.getLsbD_and]
theorem w_xor (x y : Int64) (i : Nat) : WB (x ^^^ y) i = (WB x i ^^ WB y i) := by unfold WB; rw [Int64.toBitVec_xor, BitVec.getLsbD_xor]
theorem w_big {x : Int64} {i : Nat} (h : 64 ≤ i) : WB x i = false := BitVec.getLsbD_of_ge _ _ h
theorem w_m1 : ∀ i : Nat, i < 64 → WB (-1) i = true := by decide +kernel
theorem wz_0 (i : Nat) : WB 0 i = false := BitVec.getLsbD_zero
theorem w_not (x : Int64) {i : Nat} (hi : i < 64) : WB (x ^^^ (-1)) i = !WB x i := by
  rw [w_xor, w_m1 i hi]
  cases WB x i <;> rfl
theorem w_sl : ∀ n : Nat, n < 64 → (((nI n).toInt64 &&& 63).toBitVec.smod 64).toNat = n := by decide +kernel
theorem w_su : ∀ n : Nat, n < 64 → (((nI n).toInt64.toUInt64 &&& Int64.toUInt64 63).toBitVec % 64).toNat = n := by decide +kernel
theorem w_shl {n : Nat} (hn : n < 64) (x : Int64) {i : Nat} (hi : i < 64) : WB (x <<< ((nI n).toInt64 &&& 63)) i = (decide (n ≤ i) && WB x (i - n)) := by
  unfold WB
  rw [Int64.toBitVec_shiftLeft]
  show (x.toBitVec <<< (((nI n).toInt64 &&& 63).toBitVec.smod 64).toNat).getLsbD i = _
  rw [w_sl n hn, BitVec.getLsbD_shiftLeft]
  rcases Nat.lt_or_ge i n with h | h
  · simp [h, Nat.not_le.mpr h]
  · simp [hi, h, Nat.not_lt.mpr h]
theorem w_ushr {n : Nat} (hn : n < 64) (x : Int64) (i : Nat) : WB ((x.toUInt64 >>> ((nI n).toInt64.toUInt64 &&& Int64.toUInt64 63)).toInt64) i = WB x (n + i) := by
  show (x.toUInt64 >>> ((nI n).toInt64.toUInt64 &&& Int64.toUInt64 63)).toBitVec.getLsbD i = x.toUInt64.toBitVec.getLsbD (n + i)
  rw [UInt64.toBitVec_shiftRight]
  show (x.toUInt64.toBitVec >>> (((nI n).toInt64.toUInt64 &&& Int64.toUInt64 63).toBitVec % 64).toNat).getLsbD i = _
  rw [w_su n hn, BitVec.getLsbD_ushiftRight]
theorem ones_tb : ∀ k : Nat, k < 6 → ∀ b : Nat, b < 64 → WB (tab_ONES k) b = b.testBit k := by decide +kernel
theorem ln_hi : ∀ k : Nat, k < 6 → ∀ b : Nat, b < 64 → b.testBit k = true → 2 ^ k ≤ b ∧ b - 2 ^ k = setb b k false := by decide +kernel
theorem ln_lo : ∀ k : Nat, k < 6 → ∀ b : Nat, b < 64 → b.testBit k = false → 2 ^ k ≤ b → (b - 2 ^ k).testBit k = true := by decide +kernel
theorem ln_up : ∀ k : Nat, k < 6 → ∀ b : Nat, b < 64 → b.testBit k = false → 2 ^ k + b = setb b k true := by decide +kernel
theorem ln_ov : ∀ k : Nat, k < 6 → ∀ b : Nat, b < 64 → b.testBit k = true → 2 ^ k + b < 64 → (2 ^ k + b).testBit k = false := by decide +kernel
theorem pw64 : ∀ k : Nat, k < 6 → 2 ^ k < 64 := by decide
theorem setb_6 {b k : Nat} (c : Bool) (hb : b < 64) (hk : k < 6) : setb b k c < 64 := setb_lt (n := 6) c hb hk
/-- a word with input k at 0, at 1 -/
theorem w_lo {k : Nat} (hk : k < 6) (x : Int64) {b : Nat} (hb : b < 64) : WB ((x &&& (tab_ONES k ^^^ (-1))) ||| ((x &&& (tab_ONES k ^^^ (-1))) <<< ((nI (2 ^ k)).toInt64 &&& 63))) b = WB x (setb b k false) := by
  rw [w_or, w_shl (pw64 k hk) _ hb, w_and, w_not _ hb, ones_tb k hk b hb]
  cases hc : b.testBit k
  · rw [setb_self hc]
    by_cases c : 2 ^ k ≤ b
    · have h3 : b - 2 ^ k < 64 := Nat.lt_of_le_of_lt (Nat.sub_le _ _) hb
      rw [w_and, w_not _ h3, ones_tb k hk _ h3, ln_lo k hk b hb hc c]
      simp
    · rw [decide_eq_false c]
      simp
  · obtain ⟨h1, h2⟩ := ln_hi k hk b hb hc
    rw [decide_eq_true h1, h2, w_and, w_not _ (setb_6 false hb hk), ones_tb k hk _ (setb_6 false hb hk), tb_setb, if_pos rfl]
    simp
theorem w_hi {k : Nat} (hk : k < 6) (x : Int64) {b : Nat} (hb : b < 64) : WB ((x &&& tab_ONES k) ||| (((x &&& tab_ONES k).toUInt64 >>> ((nI (2 ^ k)).toInt64.toUInt64 &&& Int64.toUInt64 63)).toInt64)) b = WB x (setb b k true) := by
  rw [w_or, w_ushr (pw64 k hk), w_and, ones_tb k hk b hb]
  cases hc : b.testBit k
  · rw [ln_up k hk b hb hc, w_and, ones_tb k hk _ (setb_6 true hb hk), tb_setb, if_pos rfl]
    simp
  · rw [setb_self hc]
    by_cases c : 2 ^ k + b < 64
    · rw [w_and, ones_tb k hk _ c, ln_ov k hk b hb hc c]
      simp
    · rw [w_big (Nat.not_lt.mp c)]
      simp
theorem w_sm {k : Nat} (hk : k < 6) (x : Int64) {b : Nat} (hb : b < 64) : WB (((x ||| ((x.toUInt64 >>> ((nI (2 ^ k)).toInt64.toUInt64 &&& Int64.toUInt64 63)).toInt64)) &&& (tab_ONES k ^^^ (-1))) ||| (((x ||| ((x.toUInt64 >>> ((nI (2 ^ k)).toInt64.toUInt64 &&& Int64.toUInt64 63)).toInt64)) &&& (tab_ONES k ^^^ (-1))) <<< ((nI (2 ^ k)).toInt64 &&& 63))) b = (WB x (setb b k false) || WB x (setb b k true)) := by
  have h0 := setb_6 false hb hk
  have h1 : (setb b k false).testBit k = false := by rw [tb_setb, if_pos rfl]
  rw [w_lo hk _ hb, w_or, w_ushr (pw64 k hk), ln_up k hk _ h0 h1, setb_setb]
/-- the number of a bit: its word and its place there -/
theorem tb_wb (w : Nat) {b : Nat} (hb : b < 64) (i : Nat) : (64 * w + b).testBit i = if i < 6 then b.testBit i else w.testBit (i - 6) := Nat.testBit_two_pow_mul_add (i := 6) w hb i
theorem wb_lt {w b : Nat} (hw : w < 16) (hb : b < 64) : 64 * w + b < 1024 := by omega
theorem tb_d64 (v i : Nat) : (v / 64).testBit i = v.testBit (6 + i) := by
  rw [show (64 : Nat) = 2 ^ 6 from rfl, Nat.testBit_div_two_pow, Nat.add_comm]
theorem tb_m64 (v i : Nat) : (v % 64).testBit i = (decide (i < 6) && v.testBit i) := Nat.testBit_mod_two_pow v 6 i
theorem wb_set0 {w b k : Nat} (c : Bool) (hb : b < 64) (hk : k < 6) : setb (64 * w + b) k c = 64 * w + setb b k c := by
  refine Nat.eq_of_testBit_eq (fun i => ?_)
  rw [tb_setb, tb_wb w hb, tb_wb w (setb_6 c hb hk), tb_setb]
  by_cases h : i = k
  · subst h; rw [if_pos rfl, if_pos hk, if_pos rfl]
  · rw [if_neg h, if_neg h]
theorem wb_set1 {w b k : Nat} (c : Bool) (hb : b < 64) (hk : 6 ≤ k) : setb (64 * w + b) k c = 64 * setb w (k - 6) c + b := by
  refine Nat.eq_of_testBit_eq (fun i => ?_)
  rw [tb_setb, tb_wb w hb, tb_wb _ hb, tb_setb]
  by_cases h : i = k
  · subst h; rw [if_pos rfl, if_neg (by omega), if_pos rfl]
  · rw [if_neg h]
    by_cases h2 : i < 6
    · rw [if_pos h2, if_pos h2]
    · rw [if_neg h2, if_neg h2, if_neg (by omega)]
/-- which numbers are kept -/
def lfO (kept : Nat) : Int32 := (15 : Int32) &&& (nI kept ^^^ (-1 : Int32))
def nxw (kept w : Nat) : Nat := ((w ||| (15 ^^^ kept)) + 1) &&& (31 ^^^ (15 ^^^ kept))
theorem nxw_e : ∀ kept : Nat, kept < 16 → ∀ w : Nat, w < 16 → ((nI w ||| lfO kept) + (1 : Int32)) &&& (lfO kept ^^^ (-1 : Int32)) = nI (nxw kept w) := by decide +kernel
theorem nxw_s : ∀ kept : Nat, kept < 16 → ∀ w : Nat, w < 16 → w &&& kept = w → w < nxw kept w ∧ nxw kept w ≤ 16 ∧ (nxw kept w < 16 → nxw kept w &&& kept = nxw kept w) := by decide +kernel
theorem nxw_g : ∀ kept : Nat, kept < 16 → ∀ w : Nat, w < 16 → w &&& kept = w → ∀ x : Nat, x < nxw kept w → x &&& kept = x → x ≤ w := by decide +kernel
theorem and_sub_lt {x m : Nat} (h : x &&& m = x) (i : Nat) (hx : x.testBit i = true) : m.testBit i = true := by
  rw [← h, Nat.testBit_and, Bool.and_eq_true] at hx
  exact hx.2
