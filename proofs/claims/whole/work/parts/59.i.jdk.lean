/-! Integer.numberOfTrailingZeros, Integer.bitCount -/
def us (x : Int32) (n : Int32) : Int32 := (x.toUInt32 >>> (n.toUInt32 &&& Int32.toUInt32 31)).toInt32
def tz4 (v c : Int32) : Int32 := c + us v 1
def tz3 (v c : Int32) : Int32 := if v ≤ 4 then tz4 v c else tz4 (us v 2) (c + 2)
def tz2 (v c : Int32) : Int32 := if v ≤ 16 then tz3 v c else tz3 (us v 4) (c + 4)
def tz1 (v c : Int32) : Int32 := if v ≤ 256 then tz2 v c else tz2 (us v 8) (c + 8)
def tz0 (v : Int32) : Int32 := if 0 < v then (if v ≤ 65536 then tz1 v 1 else tz1 (us v 16) (1 + 16)) else v &&& 32
theorem q_tz3 {v c : Int32} {u : PS} {K : Int32 → PS → Prop} (h : K (tz3 v c) u) : p_JI_numberOfTrailingZeros_J62 K v c u := by
  unfold p_JI_numberOfTrailingZeros_J62
  unfold tz3 at h
  by_cases d : v ≤ 4
  · rw [if_pos d] at h; exact br_t d h
  · rw [if_neg d] at h; exact br_f d (nm_e (nm_e h))
theorem q_tz2 {v c : Int32} {u : PS} {K : Int32 → PS → Prop} (h : K (tz2 v c) u) : p_JI_numberOfTrailingZeros_J49 K v c u := by
  unfold p_JI_numberOfTrailingZeros_J49
  unfold tz2 at h
  by_cases d : v ≤ 16
  · rw [if_pos d] at h; exact br_t d (q_tz3 h)
  · rw [if_neg d] at h; exact br_f d (nm_e (nm_e (q_tz3 h)))
theorem q_tz1 {v c : Int32} {u : PS} {K : Int32 → PS → Prop} (h : K (tz1 v c) u) : p_JI_numberOfTrailingZeros_J34 K v c u := by
  unfold p_JI_numberOfTrailingZeros_J34
  unfold tz1 at h
  by_cases d : v ≤ 256
  · rw [if_pos d] at h; exact br_t d (q_tz2 h)
  · rw [if_neg d] at h; exact br_f d (nm_e (nm_e (q_tz2 h)))
theorem q_tz0 {x : Int32} {u : PS} {K : Int32 → PS → Prop} (h : K (tz0 ((x ^^^ (-1 : Int32)) &&& (x - (1 : Int32)))) u) : p_JI_numberOfTrailingZeros x u K := by
  unfold p_JI_numberOfTrailingZeros
  refine nm_e ?_
  unfold tz0 at h
  by_cases d : 0 < (x ^^^ (-1 : Int32)) &&& (x - (1 : Int32))
  · rw [if_pos d] at h
    refine br_t d ?_
    by_cases f : (x ^^^ (-1 : Int32)) &&& (x - (1 : Int32)) ≤ 65536
    · rw [if_pos f] at h; exact br_t f (q_tz1 h)
    · rw [if_neg f] at h; exact br_f f (nm_e (nm_e (q_tz1 h)))
  · rw [if_neg d] at h; exact br_f d h
theorem tz0_pw : ∀ t : Nat, t < 32 → tz0 (nI (2 ^ t - 1)) = nI t := by decide +kernel
/-- t is the lowest bit of x -/
def LB (x t : Nat) : Prop := ∃ q : Nat, x = 2 ^ (t + 1) * q + 2 ^ t
theorem LB.ex : ∀ x : Nat, 0 < x → ∃ t : Nat, LB x t := by
  intro x
  induction x using Nat.strongRecOn with
  | _ x ih =>
    intro hx
    by_cases c : x % 2 = 1
    · exact ⟨0, x / 2, by rw [show 2 ^ (0 + 1) = 2 from rfl, show 2 ^ 0 = 1 from rfl]; omega⟩
    · obtain ⟨t, q, e⟩ := ih (x / 2) (by omega) (by omega)
      refine ⟨t + 1, q, ?_⟩
      have p1 : 2 ^ (t + 1 + 1) * q = 2 * (2 ^ (t + 1) * q) := by rw [Nat.pow_succ 2 (t + 1), Nat.mul_comm (2 ^ (t + 1)) 2, Nat.mul_assoc]
      have p2 : 2 ^ (t + 1) = 2 * 2 ^ t := by rw [Nat.pow_succ, Nat.mul_comm]
      rw [p1]
      omega
theorem LB.tb {x t : Nat} (h : LB x t) (i : Nat) : x.testBit i = if i < t then false else if i = t then true else (x - 1).testBit i := by
  obtain ⟨q, e⟩ := h
  have hp : 0 < 2 ^ t := Nat.pow_pos (by decide)
  have e2 : x - 1 = 2 ^ (t + 1) * q + (2 ^ t - 1) := by omega
  have l1 : 2 ^ t < 2 ^ (t + 1) := Nat.pow_lt_pow_right (by decide) (by omega)
  rw [e2, e, Nat.testBit_two_pow_mul_add _ l1, Nat.testBit_two_pow_mul_add _ (by omega)]
  by_cases c : i < t
  · rw [if_pos (by omega), if_pos c, Nat.testBit_two_pow]
    exact decide_eq_false (by omega)
  · rw [if_neg c]
    by_cases d : i = t
    · rw [if_pos d, if_pos (by omega), Nat.testBit_two_pow]
      exact decide_eq_true d.symm
    · rw [if_neg d, if_neg (by omega), if_neg (by omega)]
theorem LB.tb1 {x t : Nat} (h : LB x t) (i : Nat) : (x - 1).testBit i = if i < t then true else if i = t then false else x.testBit i := by
  obtain ⟨q, e⟩ := h
  have hp : 0 < 2 ^ t := Nat.pow_pos (by decide)
  have e2 : x - 1 = 2 ^ (t + 1) * q + (2 ^ t - 1) := by omega
  have l1 : 2 ^ t < 2 ^ (t + 1) := Nat.pow_lt_pow_right (by decide) (by omega)
  rw [e2, e, Nat.testBit_two_pow_mul_add _ l1, Nat.testBit_two_pow_mul_add _ (by omega)]
  by_cases c : i < t
  · rw [if_pos (by omega), if_pos c, Nat.testBit_two_pow_sub_one]
    exact decide_eq_true c
  · rw [if_neg c]
    by_cases d : i = t
    · rw [if_pos d, if_pos (by omega), Nat.testBit_two_pow_sub_one]
      exact decide_eq_false (by omega)
    · rw [if_neg d, if_neg (by omega), if_neg (by omega)]
theorem LB.at {x t : Nat} (h : LB x t) : x.testBit t = true := by rw [h.tb t, if_neg (by omega), if_pos rfl]
theorem LB.lo {x t i : Nat} (h : LB x t) (hi : i < t) : x.testBit i = false := by rw [h.tb i, if_pos hi]
theorem LB.pos {x t : Nat} (h : LB x t) : 0 < x := by
  obtain ⟨q, e⟩ := h
  have hp : 0 < 2 ^ t := Nat.pow_pos (by decide)
  omega
theorem LB.lt {x t n : Nat} (h : LB x t) (hx : x < 2 ^ n) : t < n := by
  refine Classical.byContradiction (fun c => ?_)
  have := h.at
  rw [Nat.testBit_lt_two_pow (Nat.lt_of_lt_of_le hx (Nat.pow_le_pow_right (by decide) (by omega)))] at this
  exact absurd this (by decide)
theorem q_ntz {x t : Nat} (h : LB x t) (hx : x < 2 ^ 32) {u : PS} {K : Int32 → PS → Prop} (hK : K (nI t) u) : p_JI_numberOfTrailingZeros (nI x) u K := by
  have ht := h.lt hx
  have e : (nI x ^^^ (-1 : Int32)) &&& (nI x - (1 : Int32)) = nI (2 ^ t - 1) := by
    have e1 : nI x - (1 : Int32) = nI (x - 1) := pk_sub (b := 1) h.pos
    rw [e1]
    refine b_ext (fun i hi => ?_)
    rw [b_and, b_xor, b_m1 i hi, bt_nI _ hi, bt_nI _ hi, bt_nI _ hi, h.tb1 i, Nat.testBit_two_pow_sub_one]
    by_cases c : i < t
    · rw [if_pos c, h.lo c]; simp [c]
    · rw [if_neg c]
      by_cases d : i = t
      · rw [if_pos d]; simp [c]
      · rw [if_neg d]; cases x.testBit i <;> simp [c]
  refine q_tz0 ?_
  rw [e, tz0_pw t ht]
  exact hK
/-- the lowest bit goes -/
theorem nI_drop {x t : Nat} (h : LB x t) : nI x &&& (nI x - (1 : Int32)) = nI (setb x t false) := by
  have e1 : nI x - (1 : Int32) = nI (x - 1) := pk_sub (b := 1) h.pos
  rw [e1, nx_and]
  congr 1
  refine Nat.eq_of_testBit_eq (fun i => ?_)
  rw [Nat.testBit_and, tb_setb, h.tb1 i]
  by_cases c : i < t
  · rw [if_pos c, if_neg (by omega), Bool.and_true]
  · rw [if_neg c]
    by_cases d : i = t
    · rw [if_pos d, Bool.and_false]
    · rw [if_neg d, Bool.and_self]
theorem LB.pw (t : Nat) : LB (2 ^ t) t := ⟨0, by omega⟩
theorem setb_drop_lt {x t : Nat} (h : LB x t) : setb x t false < x := by
  obtain ⟨q, e⟩ := h
  have hp : 0 < 2 ^ t := Nat.pow_pos (by decide)
  have h0 : LB x t := ⟨q, e⟩
  have : setb x t false = 2 ^ (t + 1) * q := by
    refine Nat.eq_of_testBit_eq (fun i => ?_)
    have l1 : 2 ^ t < 2 ^ (t + 1) := Nat.pow_lt_pow_right (by decide) (by omega)
    rw [tb_setb, e, Nat.testBit_two_pow_mul_add _ l1, Nat.testBit_two_pow_mul]
    by_cases d : i = t
    · subst d; rw [if_pos rfl, decide_eq_false (by omega), Bool.false_and]
    · rw [if_neg d]
      by_cases c : i < t + 1
      · rw [if_pos c, Nat.testBit_two_pow, decide_eq_false (fun w => d w.symm), decide_eq_false (by omega), Bool.false_and]
      · rw [if_neg c, decide_eq_true (by omega), Bool.true_and]
  omega
def pcI (x : Int32) : Int32 :=
  let a := x - (us x 1 &&& 1431655765)
  let b := (a &&& 858993459) + (us a 2 &&& 858993459)
  let c := (b + us b 4) &&& 252645135
  let d := c + us c 8
  let f := d + us d 16
  f &&& 63
theorem q_bc {x : Int32} {u : PS} {K : Int32 → PS → Prop} (h : K (pcI x) u) : p_JI_bitCount x u K := by
  unfold p_JI_bitCount
  exact nm_e (nm_e (nm_e (nm_e (nm_e h))))
/-- how many of the lowest n bits are 1 -/
def pc (x : Nat) : Nat → Nat
  | 0 => 0
  | n + 1 => pc x n + (x.testBit n).toNat
theorem pcI_1024 : ∀ x : Nat, x < 1024 → pcI (nI x) = nI (pc x 10) := by decide +kernel
