/-! numbers of bits: Int32 by its bits (the first rows are pasted from kit/laws/BITS.to-paste) -/
/-! ===== Int32 by its bits: bt x i ===== -/
def bt (x : Int32) (i : Nat) : Bool := x.toBitVec.getLsbD i
theorem b_ext {x y : Int32} (h : ∀ i, i < 32 → bt x i = bt y i) : x = y := Int32.toBitVec_inj.mp (BitVec.eq_of_getLsbD_eq (fun i hi => h i hi))
theorem b_or (x y : Int32) (i : Nat) : bt (x ||| y) i = (bt x i || bt y i) := by unfold bt; rw [Int32.toBitVec_or, BitVec.getLsbD_or]
theorem b_and (x y : Int32) (i : Nat) : bt (x &&& y) i = (bt x i && bt y i) := by unfold bt; rw [Int32.toBitVec_and, BitVec.getLsbD_and]
theorem b_xor (x y : Int32) (i : Nat) : bt (x ^^^ y) i = (bt x i ^^ bt y i) := by unfold bt; rw [Int32.toBitVec_xor, BitVec.getLsbD_xor]
theorem b_big {x : Int32} {i : Nat} (h : 32 ≤ i) : bt x i = false := BitVec.getLsbD_of_ge _ _ h
theorem b_255 (i : Nat) : bt 255 i = decide (i < 8) := by
  rcases Nat.lt_or_ge i 32 with h | h
  · exact (by decide +kernel : ∀ i, i < 32 → bt 255 i = decide (i < 8)) i h
  · rw [b_big h, decide_eq_false (by omega)]
theorem b_65535 (i : Nat) : bt 65535 i = decide (i < 16) := by
  rcases Nat.lt_or_ge i 32 with h | h
  · exact (by decide +kernel : ∀ i, i < 32 → bt 65535 i = decide (i < 16)) i h
  · rw [b_big h, decide_eq_false (by omega)]
theorem b_m1 : ∀ i, i < 32 → bt (-1) i = true := by decide +kernel
theorem b_0 (i : Nat) : bt 0 i = false := BitVec.getLsbD_zero
theorem s_l : ∀ n, n < 32 → ((nI n &&& 31).toBitVec.smod 32).toNat = n := by decide +kernel
theorem s_u : ∀ n, n < 32 → (((nI n).toUInt32 &&& Int32.toUInt32 31).toBitVec % 32).toNat = n := by decide +kernel
theorem b_shl (n : Nat) (hn : n < 32) (x : Int32) {i : Nat} (hi : i < 32) : bt (x <<< (nI n &&& 31)) i = (decide (n ≤ i) && bt x (i - n)) := by
  unfold bt
  rw [Int32.toBitVec_shiftLeft]
  show (x.toBitVec <<< ((nI n &&& 31).toBitVec.smod 32).toNat).getLsbD i = _
  rw [s_l n hn, BitVec.getLsbD_shiftLeft]
  rcases Nat.lt_or_ge i n with h | h
  · simp [h, Nat.not_le.mpr h]
  · simp [hi, h, Nat.not_lt.mpr h]
theorem b_ushr (n : Nat) (hn : n < 32) (x : Int32) (i : Nat) : bt ((x.toUInt32 >>> ((nI n).toUInt32 &&& Int32.toUInt32 31)).toInt32) i = bt x (n + i) := by
  show (x.toUInt32 >>> ((nI n).toUInt32 &&& Int32.toUInt32 31)).toBitVec.getLsbD i = x.toUInt32.toBitVec.getLsbD (n + i)
  rw [UInt32.toBitVec_shiftRight]
  show (x.toUInt32.toBitVec >>> (((nI n).toUInt32 &&& Int32.toUInt32 31).toBitVec % 32).toNat).getLsbD i = _
  rw [s_u n hn, BitVec.getLsbD_ushiftRight]
theorem b_sshr (n : Nat) (hn : n < 32) (x : Int32) {i : Nat} (hi : i < 32) : bt (x >>> (nI n &&& 31)) i = if n + i < 32 then bt x (n + i) else bt x 31 := by
  unfold bt
  rw [Int32.toBitVec_shiftRight]
  show (x.toBitVec.sshiftRight ((nI n &&& 31).toBitVec.smod 32).toNat).getLsbD i = _
  rw [s_l n hn, BitVec.getLsbD_sshiftRight, BitVec.msb_eq_getLsbD_last]
  simp [hi]
theorem b_shl8 (x : Int32) {i : Nat} (hi : i < 32) : bt (x <<< ((8 : Int32) &&& 31)) i = (decide (8 ≤ i) && bt x (i - 8)) := b_shl 8 (by omega) x hi
theorem b_shl16 (x : Int32) {i : Nat} (hi : i < 32) : bt (x <<< ((16 : Int32) &&& 31)) i = (decide (16 ≤ i) && bt x (i - 16)) := b_shl 16 (by omega) x hi
theorem b_shl24 (x : Int32) {i : Nat} (hi : i < 32) : bt (x <<< ((24 : Int32) &&& 31)) i = (decide (24 ≤ i) && bt x (i - 24)) := b_shl 24 (by omega) x hi
theorem b_sshr8 (x : Int32) {i : Nat} (hi : i < 32) : bt (x >>> ((8 : Int32) &&& 31)) i = if 8 + i < 32 then bt x (8 + i) else bt x 31 := b_sshr 8 (by omega) x hi
/-! ===== nI under and, xor, >>>, one bit, 65535 ===== -/
theorem nx_and (a b : Nat) : nI a &&& nI b = nI (a &&& b) := by
  apply Int32.toBitVec_inj.1
  show BitVec.ofNat 32 a &&& BitVec.ofNat 32 b = BitVec.ofNat 32 (a &&& b)
  apply BitVec.eq_of_getLsbD_eq
  intro i hi
  simp [hi]
theorem nx_xor (a b : Nat) : nI a ^^^ nI b = nI (a ^^^ b) := by
  apply Int32.toBitVec_inj.1
  show BitVec.ofNat 32 a ^^^ BitVec.ofNat 32 b = BitVec.ofNat 32 (a ^^^ b)
  apply BitVec.eq_of_getLsbD_eq
  intro i hi
  simp [hi]
theorem nx_cnt : ∀ j : Fin 32, (UInt32.ofNat j.val &&& Int32.toUInt32 31).toNat % 32 = j.val := by decide +kernel
theorem bt_nI (n : Nat) {i : Nat} (hi : i < 32) : bt (nI n) i = n.testBit i := by
  show (BitVec.ofNat 32 n).getLsbD i = n.testBit i
  rw [BitVec.getLsbD_ofNat, decide_eq_true hi, Bool.true_and]
theorem nx_or (a b : Nat) : nI a ||| nI b = nI (a ||| b) := by
  refine b_ext (fun i hi => ?_)
  rw [b_or, bt_nI _ hi, bt_nI _ hi, bt_nI _ hi, Nat.testBit_or]
theorem nI_m1 : (-1 : Int32) = nI (2 ^ 32 - 1) := by decide
/-- 1 << k -/
theorem nI_pw {k : Nat} (hk : k < 32) : (1 : Int32) <<< (nI k &&& 31) = nI (2 ^ k) := by
  refine b_ext (fun i hi => ?_)
  rw [b_shl k hk _ hi, bt_nI _ hi, show (1 : Int32) = nI 1 from rfl, bt_nI _ (by omega), Nat.testBit_two_pow]
  by_cases h : k = i
  · subst h
    simp
  · by_cases h2 : k ≤ i
    · rw [show (1 : Nat) = 2 ^ 0 from rfl, Nat.testBit_two_pow, decide_eq_false (show ¬ 0 = i - k by omega), decide_eq_false h, Bool.and_false]
    · simp [h, h2]
theorem nI_shr {n k : Nat} (hn : n < 2 ^ 31) (hk : k < 32) : nI n >>> (nI k &&& 31) = nI (n / 2 ^ k) := pk_shrN hn _ k (s_l k hk)
theorem nI_and1 {n : Nat} : nI n &&& 1 = nI (n % 2) := by
  rw [show (1 : Int32) = nI 1 from rfl, nx_and, Nat.and_one_is_mod]
theorem tb_nI {n k : Nat} (hn : n < 2 ^ 31) (hk : k < 32) : nI n >>> (nI k &&& 31) &&& 1 = bI (n.testBit k) := by
  rw [nI_shr hn hk, nI_and1]
  have : n.testBit k = decide (n / 2 ^ k % 2 = 1) := by
    rw [Nat.testBit_eq_decide_div_mod_eq]
  rw [this]
  rcases (by omega : n / 2 ^ k % 2 = 0 ∨ n / 2 ^ k % 2 = 1) with h | h
  · rw [h]; rfl
  · rw [h]; rfl
/-- bit k becomes c -/
def setb (v k : Nat) (c : Bool) : Nat := if v.testBit k = c then v else v ^^^ 2 ^ k
theorem tb_setb (v k : Nat) (c : Bool) (i : Nat) : (setb v k c).testBit i = if i = k then c else v.testBit i := by
  unfold setb
  by_cases h : v.testBit k = c
  · rw [if_pos h]
    by_cases hi : i = k
    · subst hi; rw [if_pos rfl]; exact h
    · rw [if_neg hi]
  · rw [if_neg h, Nat.testBit_xor, Nat.testBit_two_pow]
    by_cases hi : i = k
    · subst hi
      rw [if_pos rfl]
      cases c <;> cases hv : v.testBit i <;> simp_all
    · rw [if_neg hi, decide_eq_false (fun e => hi e.symm)]
      simp
theorem setb_lt {v k n : Nat} (c : Bool) (hv : v < 2 ^ n) (hk : k < n) : setb v k c < 2 ^ n := by
  unfold setb
  split
  · exact hv
  · exact Nat.xor_lt_two_pow hv (Nat.pow_lt_pow_right (by decide) hk)
theorem setb_10 {v k : Nat} (c : Bool) (hv : v < 1024) (hk : k < 10) : setb v k c < 1024 := setb_lt (n := 10) c hv hk
theorem nI_set1 {v k : Nat} (hk : k < 32) : nI v ||| ((1 : Int32) <<< (nI k &&& 31)) = nI (setb v k true) := by
  rw [nI_pw hk, nx_or]
  congr 1
  refine Nat.eq_of_testBit_eq (fun i => ?_)
  rw [Nat.testBit_or, tb_setb, Nat.testBit_two_pow]
  by_cases hi : i = k
  · subst hi; simp
  · rw [if_neg hi, decide_eq_false (fun e => hi e.symm), Bool.or_false]
theorem nI_set0 {v k : Nat} (hk : k < 32) (hv : v < 2 ^ 32) : nI v &&& (((1 : Int32) <<< (nI k &&& 31)) ^^^ (-1)) = nI (setb v k false) := by
  refine b_ext (fun i hi => ?_)
  rw [b_and, b_xor, nI_pw hk, bt_nI _ hi, bt_nI _ hi, bt_nI _ hi, tb_setb, b_m1 i hi, Nat.testBit_two_pow]
  by_cases h : i = k
  · subst h; simp
  · rw [if_neg h, decide_eq_false (fun e => h e.symm)]
    simp
theorem nI_flip {v k : Nat} (hk : k < 32) : nI v ^^^ ((1 : Int32) <<< (nI k &&& 31)) = nI (setb v k (!v.testBit k)) := by
  rw [nI_pw hk, nx_xor]
  unfold setb
  rw [if_neg (by cases v.testBit k <;> simp)]
theorem setb_self {v k : Nat} {c : Bool} (h : v.testBit k = c) : setb v k c = v := if_pos h
theorem setb_setb (v k : Nat) (c d : Bool) : setb (setb v k c) k d = setb v k d := by
  refine Nat.eq_of_testBit_eq (fun i => ?_)
  rw [tb_setb, tb_setb, tb_setb]
  by_cases h : i = k
  · rw [if_pos h, if_pos h]
  · rw [if_neg h, if_neg h, if_neg h]
