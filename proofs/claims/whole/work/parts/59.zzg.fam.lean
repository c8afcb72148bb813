/-! Drawing: the parts of a function, from the last input to the first -/
def ovA (as : Nat → Nat) (c : Nat) : Nat → Nat → Asg → Asg
  | 0, _, z => z
  | d + 1, x, z => ovA as c d (x / 2) (upA z (as (c - 1 - d)) (x.testBit 0))
def PT (as : Nat → Nat) (c : Nat) (f : Fn) (i x : Nat) : Fn := fun z => f (ovA as c (c - i) x z)
def spN (as : Nat → Nat) (x : Nat) : Nat → Nat
  | 0 => 0
  | i + 1 => if x.testBit i then setb (spN as x i) (as i) true else spN as x i
section FAMs
variable {as : Nat → Nat} {c : Nat} {f : Fn}
theorem ov_off (hk : Nat) : ∀ (d x : Nat) (z : Asg), d ≤ c → (∀ j : Nat, j < c → c - d ≤ j → as j ≠ hk) → ovA as c d x z hk = z hk := by
  intro d
  induction d with
  | zero => intro x z _ _; rfl
  | succ d ih =>
    intro x z hd h
    rw [ovA, ih _ _ (by omega) (fun j h1 h2 => h j h1 (by omega)), upA_n _ _ (fun q => h (c - 1 - d) (by omega) (by omega) q.symm)]
theorem tb_half (x i : Nat) : (x / 2).testBit i = x.testBit (i + 1) := by rw [Nat.testBit_succ]
theorem ov_at (hinj : ∀ i j : Nat, i < c → j < c → as i = as j → i = j) : ∀ (d x : Nat) (z : Asg) (j : Nat), d ≤ c → j < c → c - d ≤ j → ovA as c d x z (as j) = x.testBit (j - (c - d)) := by
  intro d
  induction d with
  | zero => intro x z j _ h1 h2; exact absurd h1 (by omega)
  | succ d ih =>
    intro x z j hd h1 h2
    rw [ovA]
    by_cases e : c - d ≤ j
    · rw [ih _ _ j (by omega) h1 e, tb_half]
      congr 1
      omega
    · have ej : j = c - 1 - d := by omega
      rw [ov_off (as j) d _ _ (by omega) (fun i i1 i2 q => by have := hinj i j i1 h1 q; omega), ej, upA_s]
      congr 1
      omega
theorem PT_top (x : Nat) : PT as c f c x = f := by
  unfold PT
  rw [Nat.sub_self]
  rfl
theorem PT_s {i : Nat} (hi : i < c) (x : Nat) : PT as c f i x = cof (as i) (x.testBit 0) (PT as c f (i + 1) (x / 2)) := by
  funext z
  unfold PT cof
  rw [show c - i = (c - (i + 1)) + 1 by omega, ovA, show c - 1 - (c - (i + 1)) = i by omega]
theorem PT_ite {i : Nat} (hi : i < c) (x : Nat) : PT as c f (i + 1) x = iteF (as i) (PT as c f i (2 * x)) (PT as c f i (2 * x + 1)) := by
  rw [PT_s hi (2 * x), PT_s hi (2 * x + 1), show 2 * x / 2 = x by omega, show (2 * x + 1) / 2 = x by omega, Nat.testBit_zero, Nat.testBit_zero, decide_eq_false (by omega), decide_eq_true (by omega), ite_cof]
theorem PT_nd {i : Nat} (hi : i < c) (x : Nat) : ¬ dep (PT as c f i x) (as i) := by
  rw [PT_s hi x]; exact not_dep_cof _ _ _
theorem tb_spN (x k : Nat) : ∀ i : Nat, (spN as x i).testBit k = true ↔ ∃ j : Nat, j < i ∧ as j = k ∧ x.testBit j = true := by
  intro i
  induction i with
  | zero => rw [spN, Nat.zero_testBit]; exact ⟨fun h => absurd h (by decide), fun ⟨j, h, _⟩ => absurd h (by omega)⟩
  | succ i ih =>
    rw [spN]
    cases hx : x.testBit i
    · rw [if_neg (by decide), ih]
      constructor
      · rintro ⟨j, h1, h2, h3⟩; exact ⟨j, by omega, h2, h3⟩
      · rintro ⟨j, h1, h2, h3⟩
        refine ⟨j, ?_, h2, h3⟩
        have : j ≠ i := fun q => by rw [q, hx] at h3; exact absurd h3 (by decide)
        omega
    · rw [if_pos rfl, tb_setb]
      by_cases e : k = as i
      · rw [if_pos e]; exact ⟨fun _ => ⟨i, by omega, e.symm, hx⟩, fun _ => rfl⟩
      · rw [if_neg e, ih]
        constructor
        · rintro ⟨j, h1, h2, h3⟩; exact ⟨j, by omega, h2, h3⟩
        · rintro ⟨j, h1, h2, h3⟩
          refine ⟨j, ?_, h2, h3⟩
          have : j ≠ i := fun q => e (by rw [← h2, q])
          omega
theorem spN_congr {x y : Nat} : ∀ i : Nat, (∀ j : Nat, j < i → x.testBit j = y.testBit j) → spN as x i = spN as y i := by
  intro i
  induction i with
  | zero => intro _; rfl
  | succ i ih => intro h; rw [spN, spN, ih (fun j hj => h j (by omega)), h i (by omega)]
theorem spN_lt (ha : ∀ j : Nat, j < c → as j < 10) (x : Nat) : ∀ i : Nat, i ≤ c → spN as x i < 1024 := by
  intro i
  induction i with
  | zero => intro _; rw [spN]; omega
  | succ i ih =>
    intro hi
    have := ih (by omega)
    rw [spN]
    split
    · exact setb_lt (n := 10) _ this (ha i (by omega))
    · exact this
end FAMs
/-- the inputs that are asked: the places that they have in the order, the last one first -/
def ASK (o : Nat → Nat) (m c : Nat) (pl : Nat → Nat) : Prop := c ≤ 10 ∧ (∀ j : Nat, j < c → pl j < 10 ∧ m.testBit (o (pl j)) = true) ∧ (∀ k : Nat, k < 10 → m.testBit k = true → ∃ j : Nat, j < c ∧ o (pl j) = k) ∧ ∀ i j : Nat, i < j → j < c → pl j < pl i
section ASKs
variable {o pl : Nat → Nat} {m c : Nat} {F : Nat → Bool}
theorem ASK.pli (h : ASK o m c pl) {i j : Nat} (hi : i < c) (hj : j < c) (e : pl i = pl j) : i = j := by
  have a := h.2.2.2 i j
  have b := h.2.2.2 j i
  by_cases c1 : i < j
  · have := a c1 hj; omega
  · by_cases c2 : j < i
    · have := b c2 hi; omega
    · omega
theorem ASK.inj (h : ASK o m c pl) (ho : PO o) : ∀ i j : Nat, i < c → j < c → o (pl i) = o (pl j) → i = j := fun i j hi hj e => h.pli hi hj (ho.2 _ _ (h.2.1 i hi).1 (h.2.1 j hj).1 e)
theorem ASK.lt (h : ASK o m c pl) (ho : PO o) : ∀ j : Nat, j < c → o (pl j) < 10 := fun j hj => ho.1 _ (h.2.1 j hj).1
theorem tb_10 {m k : Nat} (hm : m < 1024) (hk : m.testBit k = true) : k < 10 := by
  refine Classical.byContradiction (fun q => ?_)
  rw [Nat.testBit_lt_two_pow (Nat.lt_of_lt_of_le hm (Nat.pow_le_pow_right (n := 2) (i := 10) (by omega) (by omega)))] at hk
  exact absurd hk (by decide)
theorem PT_fx (h : ASK o m c pl) (ho : PO o) (hm : m < 1024) (hF : NUm F m) {i : Nat} (hi : i < c) (x : Nat) : PT (fun j => o (pl j)) c (fnOf F) (i + 1) x = fx (bef o (pl i)) (ovA (fun j => o (pl j)) c (c - (i + 1)) x (fun _ => false)) (fnOf F) := by
  funext z
  unfold PT fx fnOf
  refine hF.eq (num_lt _) (num_lt _) (fun k hk => ?_)
  have k10 := tb_10 hm hk
  rw [tb_num10 _ k10, tb_num10 _ k10]
  obtain ⟨j, hj, rfl⟩ := h.2.2.1 k k10 hk
  unfold mix
  by_cases e : i + 1 ≤ j
  · have b : bef o (pl i) (o (pl j)) = true := bef_iff.mpr ⟨pl j, h.2.2.2 i j (by omega) hj, rfl⟩
    rw [b, if_pos rfl]
    have a1 := ov_at (as := fun j => o (pl j)) (h.inj ho) (c - (i + 1)) x z j (by omega) hj (by omega)
    have a2 := ov_at (as := fun j => o (pl j)) (h.inj ho) (c - (i + 1)) x (fun _ => false) j (by omega) hj (by omega)
    exact a1.trans a2.symm
  · have b : bef o (pl i) (o (pl j)) = false := by
      cases q : bef o (pl i) (o (pl j))
      · rfl
      · obtain ⟨l, l1, l2⟩ := bef_iff.mp q
        have p1 := (h.2.1 i hi).1
        have := ho.2 l (pl j) (by omega) (h.2.1 j hj).1 l2
        by_cases w : j = i
        · subst w; omega
        · have := h.2.2.2 j i (by omega) hi; omega
    rw [b, if_neg (by decide)]
    exact ov_off (as := fun j => o (pl j)) _ _ x z (by omega) (fun j' h1 h2 q => by
      have := h.inj ho j' j h1 hj q
      omega)
theorem PT_0 (h : ASK o m c pl) (ho : PO o) (hm : m < 1024) (hF : NUm F m) (x : Nat) : PT (fun j => o (pl j)) c (fnOf F) 0 x = fun _ => F (spN (fun j => o (pl j)) x c) := by
  funext z
  unfold PT fnOf
  refine hF.eq (num_lt _) (spN_lt (h.lt ho) x c (Nat.le_refl _)) (fun k hk => ?_)
  have k10 := tb_10 hm hk
  rw [tb_num10 _ k10]
  obtain ⟨j, hj, rfl⟩ := h.2.2.1 k k10 hk
  have a1 := ov_at (as := fun j => o (pl j)) (h.inj ho) (c - 0) x z j (by omega) hj (by omega)
  rw [show j - (c - (c - 0)) = j by omega] at a1
  rw [a1]
  have a2 := tb_spN (as := fun j => o (pl j)) x (o (pl j)) c
  cases e : x.testBit j
  · cases d : (spN (fun j => o (pl j)) x c).testBit (o (pl j))
    · rfl
    · obtain ⟨i, i1, i2, i3⟩ := a2.mp d
      have := h.inj ho i j i1 hj i2
      rw [this, e] at i3
      exact absurd i3 (by decide)
  · exact (a2.mpr ⟨j, hj, rfl, e⟩).symm
/-- parts with the same table are the same -/
theorem PT_eq (h : ASK o m c pl) (ho : PO o) (hm : m < 1024) (hF : NUm F m) : ∀ i x x' : Nat, i ≤ c → (∀ y : Nat, y < 2 ^ i → F (spN (fun j => o (pl j)) (2 ^ i * x + y) c) = F (spN (fun j => o (pl j)) (2 ^ i * x' + y) c)) → PT (fun j => o (pl j)) c (fnOf F) i x = PT (fun j => o (pl j)) c (fnOf F) i x' := by
  intro i
  induction i with
  | zero =>
    intro x x' _ hy
    have := hy 0 (by decide)
    rw [Nat.pow_zero, Nat.one_mul, Nat.one_mul, Nat.add_zero, Nat.add_zero] at this
    rw [PT_0 h ho hm hF, PT_0 h ho hm hF, this]
  | succ i ih =>
    intro x x' hi hy
    have e : ∀ x t : Nat, 2 ^ i * (2 * x + t) = 2 ^ (i + 1) * x + 2 ^ i * t := fun x t => by rw [Nat.mul_add, ← Nat.mul_assoc, Nat.pow_succ]
    have p : 2 ^ (i + 1) = 2 ^ i + 2 ^ i := by rw [Nat.pow_succ]; omega
    have a := ih (2 * x) (2 * x') (by omega) (fun y hyl => by
      have := hy y (by omega)
      rw [show 2 ^ i * (2 * x) = 2 ^ (i + 1) * x by have := e x 0; omega, show 2 ^ i * (2 * x') = 2 ^ (i + 1) * x' by have := e x' 0; omega]
      exact this)
    have b := ih (2 * x + 1) (2 * x' + 1) (by omega) (fun y hyl => by
      have := hy (2 ^ i + y) (by omega)
      rw [e, e, Nat.mul_one, Nat.add_assoc, Nat.add_assoc]
      exact this)
    rw [PT_ite (by omega) x, PT_ite (by omega) x', a, b]
/-- the part of four bits -/
def h4 (a0 a1 : Nat) (b0 b1 b2 b3 : Bool) : Fn := iteF a1 (iteF a0 (fun _ => b0) (fun _ => b1)) (iteF a0 (fun _ => b2) (fun _ => b3))
theorem PT_4 (h : ASK o m c pl) (ho : PO o) (hm : m < 1024) (hF : NUm F m) (hc : 2 ≤ c) (x : Nat) : PT (fun j => o (pl j)) c (fnOf F) 2 x = h4 (o (pl 0)) (o (pl 1)) (F (spN (fun j => o (pl j)) (4 * x) c)) (F (spN (fun j => o (pl j)) (4 * x + 1) c)) (F (spN (fun j => o (pl j)) (4 * x + 2) c)) (F (spN (fun j => o (pl j)) (4 * x + 3) c)) := by
  have e1 := PT_ite (as := fun j => o (pl j)) (f := fnOf F) (show 1 < c by omega) x
  have e2 := PT_ite (as := fun j => o (pl j)) (f := fnOf F) (show 0 < c by omega) (2 * x)
  have e3 := PT_ite (as := fun j => o (pl j)) (f := fnOf F) (show 0 < c by omega) (2 * x + 1)
  rw [PT_0 h ho hm hF, PT_0 h ho hm hF, show 2 * (2 * x) = 4 * x by omega] at e2
  rw [PT_0 h ho hm hF, PT_0 h ho hm hF, show 2 * (2 * x + 1) = 4 * x + 2 by omega] at e3
  rw [e1]
  show iteF _ (PT _ c _ (0 + 1) _) (PT _ c _ (0 + 1) _) = _
  rw [e2, e3]
  rfl
end ASKs
