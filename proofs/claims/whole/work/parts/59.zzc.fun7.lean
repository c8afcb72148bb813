/-! Long: bitCount(), numberOfTrailingZeros(). Functions: ones(), firstOne() -/
def n64 (x : Int64) : Nat := x.toBitVec.toNat
def uL (x : Int64) (n : Int32) : Int64 := (x.toUInt64 >>> (n.toInt64.toUInt64 &&& Int64.toUInt64 63)).toInt64
def pcL (x : Int64) : Int32 :=
  let a := x - (uL x 1 &&& 6148914691236517205)
  let b := (a &&& 3689348814741910323) + (uL a 2 &&& 3689348814741910323)
  let c := (b + uL b 4) &&& 1085102592571150095
  let d := c + uL c 8
  let e := d + uL d 16
  let f := e + uL e 32
  f.toInt32 &&& 127
theorem q_bcL {x : Int64} {u : PS} {K : Int32 → PS → Prop} (h : K (pcL x) u) : p_JL_bitCount x u K := by
  unfold p_JL_bitCount
  exact nm_e (nm_e (nm_e (nm_e (nm_e (nm_e h)))))
theorem n64_and (a b : Int64) : n64 (a &&& b) = n64 a &&& n64 b := by unfold n64; rw [Int64.toBitVec_and, BitVec.toNat_and]
theorem n64_add (a b : Int64) : n64 (a + b) = (n64 a + n64 b) % 2 ^ 64 := by unfold n64; rw [Int64.toBitVec_add, BitVec.toNat_add]
theorem n64_sub (a b : Int64) : n64 (a - b) = (2 ^ 64 - n64 b + n64 a) % 2 ^ 64 := by unfold n64; rw [Int64.toBitVec_sub, BitVec.toNat_sub]
theorem n64_u (x : Int64) {n : Nat} (hn : n < 64) : n64 (uL x (nI n)) = n64 x / 2 ^ n := by
  show (x.toUInt64 >>> ((nI n).toInt64.toUInt64 &&& Int64.toUInt64 63)).toBitVec.toNat = x.toUInt64.toBitVec.toNat / 2 ^ n
  rw [UInt64.toBitVec_shiftRight]
  show (x.toUInt64.toBitVec >>> (((nI n).toInt64.toUInt64 &&& Int64.toUInt64 63).toBitVec % 64).toNat).toNat = _
  rw [w_su n hn, BitVec.toNat_ushiftRight, Nat.shiftRight_eq_div_pow]
theorem n64_lt (x : Int64) : n64 x < 2 ^ 64 := x.toBitVec.isLt
theorem n64_tb (x : Int64) (i : Nat) : (n64 x).testBit i = WB x i := BitVec.testBit_toNat _
/-- eight bytes -/
def Jn : Nat → (Nat → Nat) → Nat
  | 0, _ => 0
  | n + 1, b => b 0 + 256 * Jn n (fun i => b (i + 1))
theorem Jn_tb : ∀ (n : Nat) (b : Nat → Nat), (∀ i : Nat, b i < 256) → ∀ i : Nat, (Jn n b).testBit i = (decide (i < 8 * n) && (b (i / 8)).testBit (i % 8)) := by
  intro n
  induction n with
  | zero => intro b _ i; rw [Jn, Nat.zero_testBit, decide_eq_false (by omega), Bool.false_and]
  | succ n ih =>
    intro b hb i
    rw [Jn, Nat.add_comm, show (256 : Nat) = 2 ^ 8 from rfl, Nat.testBit_two_pow_mul_add _ (hb 0)]
    by_cases c : i < 8
    · rw [if_pos c, decide_eq_true (by omega), Bool.true_and, show i / 8 = 0 by omega, show i % 8 = i by omega]
    · rw [if_neg c, ih _ (fun j => hb (j + 1)), show (i - 8) / 8 + 1 = i / 8 by omega, show (i - 8) % 8 = i % 8 by omega]
      by_cases d : i < 8 * (n + 1)
      · rw [decide_eq_true d, decide_eq_true (by omega)]
      · rw [decide_eq_false d, decide_eq_false (by omega)]
theorem Jn_sh {b : Nat → Nat} (hb : ∀ i : Nat, b i < 256) {s m : Nat} (hs : s < 8) (hm : m < 2 ^ (8 - s)) : (Jn 8 b / 2 ^ s) &&& Jn 8 (fun _ => m) = Jn 8 (fun i => b i / 2 ^ s &&& m) := by
  have m8 : m < 256 := Nat.lt_of_lt_of_le hm (show 2 ^ (8 - s) ≤ 2 ^ 8 from Nat.pow_le_pow_right (by decide) (by omega))
  refine Nat.eq_of_testBit_eq (fun i => ?_)
  rw [Nat.testBit_and, Nat.testBit_div_two_pow, Jn_tb 8 b hb, Jn_tb 8 _ (fun _ => m8), Jn_tb 8 _ (fun j => Nat.lt_of_le_of_lt Nat.and_le_right m8), Nat.testBit_and, Nat.testBit_div_two_pow]
  cases e : m.testBit (i % 8)
  · simp
  · have l : i % 8 < 8 - s := Nat.lt_of_not_le (fun q => by
      have := Nat.testBit_lt_two_pow (Nat.lt_of_lt_of_le hm (Nat.pow_le_pow_right (n := 2) (by decide) q))
      rw [this] at e; exact absurd e (by decide))
    rw [show (i + s) / 8 = i / 8 by omega, show (i + s) % 8 = i % 8 + s by omega]
    by_cases d : i < 8 * 8
    · rw [decide_eq_true d, decide_eq_true (by omega)]; simp
    · rw [decide_eq_false d]; simp
theorem Jn_and {b : Nat → Nat} (hb : ∀ i : Nat, b i < 256) {m : Nat} (hm : m < 256) : Jn 8 b &&& Jn 8 (fun _ => m) = Jn 8 (fun i => b i &&& m) := by
  have := Jn_sh hb (s := 0) (m := m) (by decide) hm
  rw [Nat.pow_zero, Nat.div_one] at this
  rw [this]
  congr 1
  funext i
  rw [Nat.div_one]
theorem Jn_add (b c : Nat → Nat) : ∀ n : Nat, Jn n b + Jn n c = Jn n (fun i => b i + c i) := by
  intro n
  induction n generalizing b c with
  | zero => rfl
  | succ n ih =>
    rw [Jn, Jn, Jn, ← ih]
    omega
theorem Jn_sub (b c : Nat → Nat) (h : ∀ i : Nat, c i ≤ b i) : ∀ n : Nat, Jn n c ≤ Jn n b ∧ Jn n b - Jn n c = Jn n (fun i => b i - c i) := by
  intro n
  induction n generalizing b c with
  | zero => exact ⟨Nat.le_refl _, rfl⟩
  | succ n ih =>
    obtain ⟨h1, h2⟩ := ih (fun i => b (i + 1)) (fun i => c (i + 1)) (fun i => h (i + 1))
    have := h 0
    rw [Jn, Jn, Jn, ← h2]
    omega
theorem Jn_ltn : ∀ (n : Nat) (b : Nat → Nat), (∀ i : Nat, b i < 256) → Jn n b < 256 ^ n := by
  intro n
  induction n with
  | zero => intro b _; exact Nat.one_pos
  | succ n ih =>
    intro b hb
    have h1 := ih _ (fun i => hb (i + 1))
    have h0 := hb 0
    rw [Jn, Nat.pow_succ]
    omega
theorem Jn_lt (b : Nat → Nat) (hb : ∀ i : Nat, b i < 256) : Jn 8 b < 2 ^ 64 := Jn_ltn 8 b hb
theorem Jn_congr : ∀ (n : Nat) (f g : Nat → Nat), (∀ i : Nat, i < n → f i = g i) → Jn n f = Jn n g := by
  intro n
  induction n with
  | zero => intro f g _; rfl
  | succ n ih =>
    intro f g h
    rw [Jn, Jn, h 0 (by omega), ih _ (fun i => g (i + 1)) (fun i hi => h (i + 1) (by omega))]
theorem Jn_last : ∀ (n : Nat) (f : Nat → Nat), f n = 0 → Jn (n + 1) f = Jn n f := by
  intro n
  induction n with
  | zero => intro f h; rw [Jn, Jn, Jn, h]
  | succ n ih =>
    intro f h
    rw [Jn, ih (fun i => f (i + 1)) h, Jn]
def shJ (b : Nat → Nat) : Nat → Nat := fun i => if i < 7 then b (i + 1) else 0
theorem Jn_s {b : Nat → Nat} (hb : b 0 < 256) : Jn 8 b / 256 = Jn 8 (shJ b) := by
  have e1 : Jn 8 b = b 0 + 256 * Jn 7 (fun i => b (i + 1)) := rfl
  have e2 : Jn 8 (shJ b) = Jn 7 (fun i => b (i + 1)) := by
    rw [Jn_last 7 (shJ b) rfl]
    exact Jn_congr 7 _ _ (fun i hi => if_pos hi)
  rw [e1, e2]
  omega
theorem Jn_0 (b : Nat → Nat) (hb : b 0 < 128) : Jn 8 b % 128 = b 0 := by
  have e1 : Jn 8 b = b 0 + 256 * Jn 7 (fun i => b (i + 1)) := rfl
  omega
def by8 (x : Nat) : Nat → Nat := fun i => x / 256 ^ i % 256
theorem by8_lt (x i : Nat) : by8 x i < 256 := Nat.mod_lt _ (by decide)
theorem by8_J {x : Nat} (hx : x < 2 ^ 64) : Jn 8 (by8 x) = x := by
  refine Nat.eq_of_testBit_eq (fun i => ?_)
  rw [Jn_tb 8 _ (by8_lt x)]
  by_cases c : i < 64
  · unfold by8
    rw [decide_eq_true (by omega), Bool.true_and, show (256 : Nat) = 2 ^ 8 from rfl, ← Nat.pow_mul, Nat.testBit_mod_two_pow, decide_eq_true (by omega), Bool.true_and, Nat.testBit_div_two_pow, show i % 8 + 8 * (i / 8) = i by omega]
  · rw [decide_eq_false (by omega), Bool.false_and]
    exact (Nat.testBit_lt_two_pow (Nat.lt_of_lt_of_le hx (Nat.pow_le_pow_right (n := 2) (by decide) (show 64 ≤ i by omega)))).symm
def g1 (b : Nat) : Nat := b - (b / 2 ^ 1 &&& 85)
def g2 (b : Nat) : Nat := (b &&& 51) + (b / 2 ^ 2 &&& 51)
theorem g_1 : ∀ b : Nat, b < 256 → (b / 2 ^ 1 &&& 85) ≤ b ∧ g1 b < 256 := by decide +kernel
theorem g_2 : ∀ b : Nat, b < 256 → g2 (g1 b) ≤ 68 ∧ g2 (g1 b) % 16 ≤ 4 ∧ (g2 (g1 b) % 16 + g2 (g1 b) / 16) = pc b 8 := by decide +kernel
theorem g_3 : ∀ b : Nat, b < 256 → pc b 8 ≤ 8 := by decide +kernel
theorem Jn_16 (b : Nat → Nat) (hb : ∀ i : Nat, b i ≤ 68) : Jn 8 b / 16 = Jn 8 (fun i => b i / 16 + 16 * (shJ b i % 16)) := by
  have h1 : ∀ i : Nat, b i < 256 := fun i => by have := hb i; omega
  have h2 : ∀ i : Nat, b i / 16 + 16 * (shJ b i % 16) < 256 := fun i => by have := h1 i; omega
  have tbl : ∀ x y j : Nat, x < 256 → (x / 16 + 16 * (y % 16)).testBit j = if j < 4 then x.testBit (j + 4) else (decide (j - 4 < 4) && y.testBit (j - 4)) := fun x y j hx => by
    rw [show (16 : Nat) = 2 ^ 4 from rfl, Nat.add_comm, Nat.testBit_two_pow_mul_add _ (show x / 2 ^ 4 < 2 ^ 4 by omega), Nat.testBit_div_two_pow, Nat.testBit_mod_two_pow]
  refine Nat.eq_of_testBit_eq (fun i => ?_)
  rw [Jn_tb 8 _ h2, show Jn 8 b / 16 = Jn 8 b / 2 ^ 4 from rfl, Nat.testBit_div_two_pow, Jn_tb 8 b h1, tbl _ _ _ (h1 _)]
  by_cases c : i % 8 < 4
  · rw [if_pos c, show (i + 4) / 8 = i / 8 by omega, show (i + 4) % 8 = i % 8 + 4 by omega]
    by_cases d : i < 8 * 8
    · rw [decide_eq_true d, decide_eq_true (by omega)]
    · rw [decide_eq_false d, decide_eq_false (by omega)]
  · rw [if_neg c, show (i + 4) / 8 = i / 8 + 1 by omega, show (i + 4) % 8 = i % 8 - 4 by omega, decide_eq_true (show i % 8 - 4 < 4 by omega), Bool.true_and]
    unfold shJ
    by_cases d : i / 8 < 7
    · rw [if_pos d, decide_eq_true (show i + 4 < 8 * 8 by omega), decide_eq_true (show i < 8 * 8 by omega)]
    · rw [if_neg d, Nat.zero_testBit, decide_eq_false (show ¬ i + 4 < 8 * 8 by omega)]; simp
theorem shJ_le {b : Nat → Nat} {m : Nat} (hb : ∀ i : Nat, b i ≤ m) (i : Nat) : shJ b i ≤ m := by
  unfold shJ
  split
  · exact hb _
  · exact Nat.zero_le _
theorem sw_end {c : Nat → Nat} {A B C : Nat} (h : ∀ i : Nat, c i ≤ 8) (hA : A = Jn 8 c) (hB : B = A + A / 256) (hC : C = B + B / 65536) : B < 2 ^ 64 ∧ C < 2 ^ 64 ∧ C + C / 4294967296 < 2 ^ 64 ∧ (C + C / 4294967296) % 128 = c 0 + c 1 + c 2 + c 3 + c 4 + c 5 + c 6 + c 7 := by
  have h1 := shJ_le h
  have eB : B = Jn 8 (fun i => c i + shJ c i) := by
    rw [hB, hA, Jn_s (by have := h 0; omega), Jn_add]
  generalize hd : (fun i => c i + shJ c i) = d at eB
  have hd' : ∀ i : Nat, d i ≤ 16 := fun i => by rw [← hd]; have := h i; have := h1 i; show c i + shJ c i ≤ 16; omega
  have h2 := shJ_le hd'
  have h3 := shJ_le h2
  have eC : C = Jn 8 (fun i => d i + shJ (shJ d) i) := by
    rw [hC, eB, show (65536 : Nat) = 256 * 256 from rfl, ← Nat.div_div_eq_div_mul, Jn_s (by have := hd' 0; omega), Jn_s (by have := h2 0; omega), Jn_add]
  generalize he : (fun i => d i + shJ (shJ d) i) = e at eC
  have he' : ∀ i : Nat, e i ≤ 32 := fun i => by rw [← he]; have := hd' i; have := h3 i; show d i + shJ (shJ d) i ≤ 32; omega
  have k1 := shJ_le he'
  have k2 := shJ_le k1
  have k3 := shJ_le k2
  have k4 := shJ_le k3
  have eD : C + C / 4294967296 = Jn 8 (fun i => e i + shJ (shJ (shJ (shJ e))) i) := by
    rw [eC, show (4294967296 : Nat) = 256 * 256 * 256 * 256 from rfl, ← Nat.div_div_eq_div_mul, ← Nat.div_div_eq_div_mul, ← Nat.div_div_eq_div_mul, Jn_s (by have := he' 0; omega), Jn_s (by have := k1 0; omega), Jn_s (by have := k2 0; omega), Jn_s (by have := k3 0; omega), Jn_add]
  refine ⟨by rw [eB]; exact Jn_lt _ (fun i => by have := hd' i; omega), by rw [eC]; exact Jn_lt _ (fun i => by have := he' i; omega), by rw [eD]; exact Jn_lt _ (fun i => by have := he' i; have := k4 i; omega), ?_⟩
  rw [eD, Jn_0 _ (by have := he' 0; have := k4 0; omega), ← he, ← hd]
  simp only [shJ]
  simp
  omega
theorem cntT_add (f : Nat → Bool) (m n : Nat) : cntT f (m + n) = cntT f m + cntT (fun i => f (m + i)) n := by
  induction n with
  | zero => rfl
  | succ n ih =>
    rw [show m + (n + 1) = (m + n) + 1 by omega, cntT, cntT, ih]
    cases f (m + n) <;> simp <;> omega
theorem cntT_congr {f g : Nat → Bool} {n : Nat} (h : ∀ i : Nat, i < n → f i = g i) : cntT f n = cntT g n := by
  induction n with
  | zero => rfl
  | succ n ih => rw [cntT, cntT, ih (fun i hi => h i (by omega)), h n (by omega)]
theorem pc_cnt (x n : Nat) : pc x n = cntT x.testBit n := by
  induction n with
  | zero => rfl
  | succ n ih =>
    rw [pc, cntT, ih]
    cases x.testBit n <;> simp
theorem pc_byte (x : Int64) {i : Nat} (hi : i < 8) : pc (by8 (n64 x) i) 8 = cntT (fun j => WB x (8 * i + j)) 8 := by
  rw [pc_cnt]
  refine cntT_congr (fun j hj => ?_)
  unfold by8
  rw [show (256 : Nat) = 2 ^ 8 from rfl, ← Nat.pow_mul, Nat.testBit_mod_two_pow, decide_eq_true hj, Bool.true_and, Nat.testBit_div_two_pow, Nat.add_comm, n64_tb]
theorem toI32_127 (x : Int64) : x.toInt32 &&& (127 : Int32) = nI (n64 x % 128) := by
  refine b_ext (fun i hi => ?_)
  rw [b_and, bt_32 _ hi, show (127 : Int32) = nI 127 from rfl, bt_nI _ hi, bt_nI _ hi, show (128 : Nat) = 2 ^ 7 from rfl, Nat.testBit_mod_two_pow, n64_tb, show (127 : Nat) = 2 ^ 7 - 1 from rfl, Nat.testBit_two_pow_sub_one, Bool.and_comm]
theorem pcL_n (x : Int64) : pcL x = nI (cntT (WB x) 64) := by
  have hb := by8_lt (n64 x)
  have hx := by8_J (n64_lt x)
  have c55 : n64 (6148914691236517205 : Int64) = Jn 8 (fun _ => 85) := by decide +kernel
  have c33 : n64 (3689348814741910323 : Int64) = Jn 8 (fun _ => 51) := by decide +kernel
  have c0f : n64 (1085102592571150095 : Int64) = Jn 8 (fun _ => 15) := by decide +kernel
  generalize hbb : by8 (n64 x) = b at hb hx
  -- first step
  have e1 : n64 (x - (uL x 1 &&& 6148914691236517205)) = Jn 8 (fun i => g1 (b i)) := by
    have s1 := Jn_sub b (fun i => b i / 2 ^ 1 &&& 85) (fun i => (g_1 _ (hb i)).1) 8
    have l1 := Jn_lt b hb
    rw [n64_sub, n64_and, show (1 : Int32) = nI 1 from rfl, n64_u x (by decide), c55, ← hx, Jn_sh hb (by decide) (by decide)]
    have : Jn 8 (fun i => g1 (b i)) = Jn 8 b - Jn 8 (fun i => b i / 2 ^ 1 &&& 85) := s1.2.symm
    rw [this]
    have := s1.1
    omega
  have h1 : ∀ i : Nat, g1 (b i) < 256 := fun i => (g_1 _ (hb i)).2
  generalize ha : x - (uL x 1 &&& 6148914691236517205) = a at e1
  -- second step
  have e2 : n64 ((a &&& 3689348814741910323) + (uL a 2 &&& 3689348814741910323)) = Jn 8 (fun i => g2 (g1 (b i))) := by
    rw [n64_add, n64_and, n64_and, show (2 : Int32) = nI 2 from rfl, n64_u a (by decide), c33, e1, Jn_and h1 (by decide), Jn_sh h1 (by decide) (by decide), Jn_add]
    show Jn 8 (fun i => g2 (g1 (b i))) % 2 ^ 64 = _
    exact Nat.mod_eq_of_lt (Jn_lt _ (fun i => by have := (g_2 _ (hb i)).1; omega))
  have h2 : ∀ i : Nat, g2 (g1 (b i)) ≤ 68 := fun i => (g_2 _ (hb i)).1
  generalize hb2 : (a &&& 3689348814741910323) + (uL a 2 &&& 3689348814741910323) = y at e2
  -- third step
  have e3 : n64 ((y + uL y 4) &&& 1085102592571150095) = Jn 8 (fun i => pc (b i) 8) := by
    have l3 : ∀ i : Nat, g2 (g1 (b i)) + (g2 (g1 (b i)) / 16 + 16 * (shJ (fun i => g2 (g1 (b i))) i % 16)) < 256 := fun i => by
      have q1 := g_2 _ (hb i)
      have q2 := g_2 _ (hb (i + 1))
      have q3 : shJ (fun i => g2 (g1 (b i))) i % 16 ≤ 4 := by
        unfold shJ
        split
        · exact q2.2.1
        · decide
      omega
    rw [n64_and, n64_add, show (4 : Int32) = nI 4 from rfl, n64_u y (by decide), e2, c0f, show (2 : Nat) ^ 4 = 16 from rfl, Jn_16 _ h2, Jn_add, Nat.mod_eq_of_lt (Jn_lt _ l3), Jn_and l3 (by decide)]
    congr 1
    funext i
    have q1 := g_2 _ (hb i)
    have q2 := g_3 _ (hb i)
    rw [show (15 : Nat) = 2 ^ 4 - 1 from rfl, Nat.and_two_pow_sub_one_eq_mod]
    omega
  generalize hc : (y + uL y 4) &&& 1085102592571150095 = c at e3
  have hp : ∀ i : Nat, pc (b i) 8 ≤ 8 := fun i => g_3 _ (hb i)
  obtain ⟨r1, r2, r3, r4⟩ := sw_end hp e3 rfl rfl
  have f1 : n64 (c + uL c 8) = n64 c + n64 c / 256 := by
    rw [n64_add, show (8 : Int32) = nI 8 from rfl, n64_u c (by decide)]
    exact Nat.mod_eq_of_lt r1
  have f2 : n64 ((c + uL c 8) + uL (c + uL c 8) 16) = (n64 c + n64 c / 256) + (n64 c + n64 c / 256) / 65536 := by
    rw [n64_add, show (16 : Int32) = nI 16 from rfl, n64_u _ (by decide), f1]
    exact Nat.mod_eq_of_lt r2
  have f3 : n64 (((c + uL c 8) + uL (c + uL c 8) 16) + uL ((c + uL c 8) + uL (c + uL c 8) 16) 32) % 128 = cntT (WB x) 64 := by
    rw [n64_add, show (32 : Int32) = nI 32 from rfl, n64_u _ (by decide), f2, Nat.mod_eq_of_lt r3, r4, ← hbb]
    rw [pc_byte x (by decide), pc_byte x (by decide), pc_byte x (by decide), pc_byte x (by decide), pc_byte x (by decide), pc_byte x (by decide), pc_byte x (by decide), pc_byte x (by decide)]
    rw [show (64 : Nat) = 8 + (8 + (8 + (8 + (8 + (8 + (8 + 8)))))) from rfl, cntT_add, cntT_add, cntT_add, cntT_add, cntT_add, cntT_add, cntT_add]
    simp only [Nat.mul_zero, Nat.zero_add, ← Nat.add_assoc]
  have fin : pcL x = (((c + uL c 8) + uL (c + uL c 8) 16) + uL ((c + uL c 8) + uL (c + uL c 8) 16) 32).toInt32 &&& 127 := by
    subst hc hb2 ha
    rfl
  rw [fin, toI32_127, f3]
