/-! functions of inputs, what is left of them, questions -/
abbrev Asg : Type := Nat → Bool
abbrev Fn : Type := Asg → Bool
def upA (x : Asg) (k : Nat) (c : Bool) : Asg := fun i => if i = k then c else x i
theorem upA_s (x : Asg) (k : Nat) (c : Bool) : upA x k c k = c := if_pos rfl
theorem upA_n (x : Asg) {k i : Nat} (c : Bool) (h : i ≠ k) : upA x k c i = x i := if_neg h
theorem upA_id (x : Asg) (k : Nat) : upA x k (x k) = x := by
  funext i
  by_cases h : i = k
  · subst h; exact upA_s _ _ _
  · exact upA_n _ _ h
theorem upA_uu (x : Asg) (k : Nat) (c d : Bool) : upA (upA x k c) k d = upA x k d := by
  funext i
  by_cases h : i = k
  · subst h; rw [upA_s, upA_s]
  · rw [upA_n _ _ h, upA_n _ _ h, upA_n _ _ h]
theorem upA_comm (x : Asg) {k l : Nat} (h : k ≠ l) (c d : Bool) : upA (upA x k c) l d = upA (upA x l d) k c := by
  funext i
  by_cases h1 : i = k
  · subst h1; rw [upA_n _ _ h, upA_s, upA_s]
  · by_cases h2 : i = l
    · subst h2; rw [upA_s, upA_n _ _ h1, upA_s]
    · rw [upA_n _ _ h2, upA_n _ _ h1, upA_n _ _ h1, upA_n _ _ h2]
/-- inputs as a number -/
def numT (x : Asg) : Nat → Nat
  | 0 => 0
  | k + 1 => setb (numT x k) k (x k)
theorem tb_num (x : Asg) (n i : Nat) : (numT x n).testBit i = (decide (i < n) && x i) := by
  induction n with
  | zero => rw [numT, Nat.zero_testBit]; simp
  | succ n ih =>
    rw [numT, tb_setb]
    by_cases h : i = n
    · subst h; rw [if_pos rfl]; simp
    · rw [if_neg h, ih]
      congr 1
      exact decide_eq_decide.mpr (by omega)
theorem tb_num10 (x : Asg) {i : Nat} (hi : i < 10) : (numT x 10).testBit i = x i := by rw [tb_num, decide_eq_true hi, Bool.true_and]
theorem num_lt (x : Asg) : numT x 10 < 1024 := by
  refine Nat.lt_pow_two_of_testBit (n := 10) _ (fun i hi => ?_)
  rw [tb_num, decide_eq_false (by omega), Bool.false_and]
theorem num_ext {x y : Asg} (h : ∀ i : Nat, i < 10 → x i = y i) : numT x 10 = numT y 10 := by
  refine Nat.eq_of_testBit_eq (fun i => ?_)
  rw [tb_num, tb_num]
  by_cases hi : i < 10
  · rw [h i hi]
  · rw [decide_eq_false hi, Bool.false_and, Bool.false_and]
theorem num_bits {v : Nat} (hv : v < 1024) : numT v.testBit 10 = v := by
  refine Nat.eq_of_testBit_eq (fun i => ?_)
  rw [tb_num]
  by_cases hi : i < 10
  · rw [decide_eq_true hi, Bool.true_and]
  · rw [decide_eq_false hi, Bool.false_and]
    exact (Nat.testBit_lt_two_pow (Nat.lt_of_lt_of_le hv (Nat.pow_le_pow_right (n := 2) (i := 10) (by omega) (by omega)))).symm
theorem num_setb (x : Asg) {k : Nat} (hk : k < 10) (c : Bool) : numT (upA x k c) 10 = setb (numT x 10) k c := by
  refine Nat.eq_of_testBit_eq (fun i => ?_)
  rw [tb_num, tb_setb, tb_num]
  by_cases h : i = k
  · subst h; rw [upA_s, decide_eq_true hk, if_pos rfl, Bool.true_and]
  · rw [upA_n _ _ h, if_neg h]
/-- a table as a function -/
def fnOf (f : Nat → Bool) : Fn := fun x => f (numT x 10)
theorem fnOf_ext {f : Nat → Bool} {x y : Asg} (h : ∀ i : Nat, i < 10 → x i = y i) : fnOf f x = fnOf f y := by
  unfold fnOf
  rw [num_ext h]
theorem fnOf_bits {f : Nat → Bool} {v : Nat} (hv : v < 1024) : fnOf f v.testBit = f v := by
  unfold fnOf
  rw [num_bits hv]
theorem fnOf_inj {f g : Nat → Bool} : fnOf f = fnOf g ↔ ∀ v : Nat, v < 1024 → f v = g v := by
  constructor
  · intro h v hv
    rw [← fnOf_bits (f := f) hv, ← fnOf_bits (f := g) hv, h]
  · intro h
    funext x
    exact h _ (num_lt x)
/-- a function of the ten inputs alone -/
def Tame (f : Fn) : Prop := ∀ x y : Asg, (∀ i : Nat, i < 10 → x i = y i) → f x = f y
theorem tame_fnOf (f : Nat → Bool) : Tame (fnOf f) := fun _ _ h => fnOf_ext h
/-- with the inputs of B as a has them -/
def mix (B : Nat → Bool) (a x : Asg) : Asg := fun k => if B k then a k else x k
def fx (B : Nat → Bool) (a : Asg) (f : Fn) : Fn := fun x => f (mix B a x)
def cof (k : Nat) (c : Bool) (f : Fn) : Fn := fun x => f (upA x k c)
def dep (f : Fn) (k : Nat) : Prop := cof k false f ≠ cof k true f
theorem tame_fx {f : Fn} (h : Tame f) (B : Nat → Bool) (a : Asg) : Tame (fx B a f) := fun x y hxy => h _ _ (fun i hi => by
  unfold mix
  rw [hxy i hi])
theorem tame_cof {f : Fn} (h : Tame f) (k : Nat) (c : Bool) : Tame (cof k c f) := fun x y hxy => h _ _ (fun i hi => by
  unfold upA
  rw [hxy i hi])
/-- a function is its two parts -/
theorem cof_ext {f g : Fn} (k : Nat) (h0 : cof k false f = cof k false g) (h1 : cof k true f = cof k true g) : f = g := by
  funext x
  have e0 := congrFun h0 x
  have e1 := congrFun h1 x
  unfold cof at e0 e1
  have e := upA_id x k
  cases hx : x k
  · rw [hx] at e; rw [e] at e0; exact e0
  · rw [hx] at e; rw [e] at e1; exact e1
theorem cof_cof (k : Nat) (c d : Bool) (f : Fn) : cof k d (cof k c f) = cof k c f := by
  funext x
  unfold cof
  rw [upA_uu]
theorem cof_comm {k l : Nat} (h : k ≠ l) (c d : Bool) (f : Fn) : cof k c (cof l d f) = cof l d (cof k c f) := by
  funext x
  unfold cof
  rw [upA_comm x h]
theorem not_dep_cof (k : Nat) (c : Bool) (f : Fn) : ¬ dep (cof k c f) k := fun h => h (by rw [cof_cof, cof_cof])
theorem not_dep {f : Fn} {k : Nat} (h : ¬ dep f k) (c : Bool) : cof k c f = f := by
  have h : cof k false f = cof k true f := Classical.byContradiction h
  refine cof_ext k ?_ ?_
  · rw [cof_cof]; cases c
    · rfl
    · exact h.symm
  · rw [cof_cof]; cases c
    · exact h
    · rfl
theorem dep_iff {f : Fn} {k : Nat} : dep f k ↔ ∃ x : Asg, f (upA x k false) ≠ f (upA x k true) := by
  constructor
  · intro h
    refine Classical.byContradiction (fun hn => h ?_)
    funext x
    exact Classical.byContradiction (fun z => hn ⟨x, z⟩)
  · rintro ⟨x, hx⟩ e
    exact hx (congrFun e x)
theorem dep_lt {f : Fn} (h : Tame f) {k : Nat} (hd : dep f k) : k < 10 := by
  refine Classical.byContradiction (fun hk => hd ?_)
  funext x
  refine h _ _ (fun i hi => ?_)
  rw [upA_n _ _ (by omega), upA_n _ _ (by omega)]
/-- questions of input k with the inputs of B asked before, of the places of P -/
def QP (P : Nat → Prop) (F : Nat → Nat → Bool) (B : Nat → Bool) (k : Nat) (g : Fn) : Prop := (∃ p : Nat, P p ∧ ∃ a : Asg, g = fx B a (fnOf (F p))) ∧ dep g k
/-- the inputs before place j of the order -/
def bef (o : Nat → Nat) (j : Nat) : Nat → Bool := fun k => (List.range j).any (fun i => o i == k)
theorem bef_iff {o : Nat → Nat} {j k : Nat} : bef o j k = true ↔ ∃ i : Nat, i < j ∧ o i = k := by
  unfold bef
  rw [List.any_eq_true]
  constructor
  · rintro ⟨i, hi, h⟩
    exact ⟨i, List.mem_range.mp hi, by simpa using h⟩
  · rintro ⟨i, hi, h⟩
    exact ⟨i, List.mem_range.mpr hi, by simpa using h⟩
theorem bef_0 (o : Nat → Nat) (k : Nat) : bef o 0 k = false := rfl
theorem bef_s {o : Nat → Nat} {j k : Nat} : bef o (j + 1) k = (bef o j k || (o j == k)) := by
  cases h : bef o (j + 1) k
  · symm
    rw [Bool.or_eq_false_iff]
    constructor
    · cases h2 : bef o j k
      · rfl
      · obtain ⟨i, hi, e⟩ := bef_iff.mp h2
        rw [bef_iff.mpr ⟨i, by omega, e⟩] at h
        exact absurd h (by decide)
    · cases h2 : (o j == k)
      · rfl
      · rw [bef_iff.mpr ⟨j, by omega, beq_iff_eq.mp h2⟩] at h
        exact absurd h (by decide)
  · symm
    obtain ⟨i, hi, e⟩ := bef_iff.mp h
    by_cases hij : i = j
    · subst hij; rw [beq_iff_eq.mpr e, Bool.or_true]
    · rw [bef_iff.mpr ⟨i, by omega, e⟩, Bool.true_or]
/-- a row of all inputs -/
def PO (o : Nat → Nat) : Prop := (∀ i : Nat, i < 10 → o i < 10) ∧ ∀ i j : Nat, i < 10 → j < 10 → o i = o j → i = j
theorem PO.sur {o : Nat → Nat} (h : PO o) {k : Nat} (hk : k < 10) : ∃ i : Nat, i < 10 ∧ o i = k := by
  refine Classical.byContradiction (fun hn => ?_)
  refine no_inj 9 10 (fun i => if o i = 9 then k else o i) (by omega) (fun i hi => ?_) (fun i j hi hj e => ?_)
  · have h1 := h.1 i hi
    show (if o i = 9 then k else o i) < 9
    by_cases c : o i = 9
    · rw [if_pos c]
      have : k ≠ 9 := fun z => hn ⟨i, hi, by rw [c, z]⟩
      omega
    · rw [if_neg c]; omega
  · have e : (if o i = 9 then k else o i) = (if o j = 9 then k else o j) := e
    by_cases c : o i = 9 <;> by_cases d : o j = 9
    · exact h.2 i j hi hj (c.trans d.symm)
    · rw [if_pos c, if_neg d] at e; exact absurd ⟨j, hj, e.symm⟩ hn
    · rw [if_neg c, if_pos d] at e; exact absurd ⟨i, hi, e⟩ hn
    · rw [if_neg c, if_neg d] at e; exact h.2 i j hi hj e
theorem PO.bef_self {o : Nat → Nat} (h : PO o) {j : Nat} (hj : j < 10) : bef o j (o j) = false := by
  cases c : bef o j (o j)
  · rfl
  · obtain ⟨i, hi, e⟩ := bef_iff.mp c
    have := h.2 i j (by omega) hj e
    omega
theorem PO.bef_all {o : Nat → Nat} (h : PO o) {k : Nat} (hk : k < 10) : bef o 10 k = true := by
  obtain ⟨i, hi, e⟩ := h.sur hk
  exact bef_iff.mpr ⟨i, hi, e⟩
def sumTo (f : Nat → Nat) : Nat → Nat
  | 0 => 0
  | n + 1 => sumTo f n + f n
/-- how many questions ask input o j; the whole size -/
noncomputable def qn (P : Nat → Prop) (F : Nat → Nat → Bool) (o : Nat → Nat) (j : Nat) : Nat := cn (QP P F (bef o j) (o j))
noncomputable def wh (P : Nat → Prop) (F : Nat → Nat → Bool) (o : Nat → Nat) : Nat := sumTo (qn P F o) 10
/-! ways: the numbers of the inputs asked before -/
def pre (o : Nat → Nat) (a : Nat) : Nat → Asg
  | 0 => fun _ => false
  | j + 1 => upA (pre o (a / 2) j) (o j) (a.testBit 0)
def Rs (F : Nat → Nat → Bool) (o : Nat → Nat) (j p a : Nat) : Fn := fx (bef o j) (pre o a j) (fnOf (F p))
theorem Rs_cof {F : Nat → Nat → Bool} {o : Nat → Nat} (ho : PO o) {j p a : Nat} (hj : j < 10) (c : Bool) : Rs F o (j + 1) p (2 * a + c.toNat) = cof (o j) c (Rs F o j p a) := by
  funext x
  unfold Rs cof fx
  congr 1
  funext k
  unfold mix
  rw [bef_s, pre]
  have e2 : (2 * a + c.toNat) / 2 = a := by cases c <;> simp <;> omega
  have e1 : (2 * a + c.toNat).testBit 0 = c := by
    rw [Nat.testBit_zero]
    cases c
    · exact decide_eq_false (by simp)
    · exact decide_eq_true (by simp)
  rw [e2, e1]
  by_cases hk : k = o j
  · subst hk
    rw [ho.bef_self hj, upA_s, upA_s]
    simp
  · rw [upA_n _ _ hk, upA_n _ _ hk, beq_eq_false_iff_ne.mpr (Ne.symm hk), Bool.or_false]
theorem Rs_dep {F : Nat → Nat → Bool} {o : Nat → Nat} (ho : PO o) {j p a : Nat} (hj : j < 10) : dep (Rs F o j p a) (o j) ↔ Rs F o (j + 1) p (2 * a) ≠ Rs F o (j + 1) p (2 * a + 1) := by
  have e0 := Rs_cof (F := F) ho (p := p) (a := a) hj false
  have e1 := Rs_cof (F := F) ho (p := p) (a := a) hj true
  unfold dep
  rw [← e0, ← e1]
  exact Iff.rfl
theorem Rs_eq {F : Nat → Nat → Bool} {o : Nat → Nat} (ho : PO o) {j p a p' a' : Nat} (hj : j < 10) : Rs F o j p a = Rs F o j p' a' ↔ Rs F o (j + 1) p (2 * a) = Rs F o (j + 1) p' (2 * a') ∧ Rs F o (j + 1) p (2 * a + 1) = Rs F o (j + 1) p' (2 * a' + 1) := by
  have e0 := Rs_cof (F := F) ho (p := p) (a := a) hj false
  have e1 := Rs_cof (F := F) ho (p := p) (a := a) hj true
  have e2 := Rs_cof (F := F) ho (p := p') (a := a') hj false
  have e3 := Rs_cof (F := F) ho (p := p') (a := a') hj true
  have e0 : Rs F o (j + 1) p (2 * a) = _ := e0
  have e1 : Rs F o (j + 1) p (2 * a + 1) = _ := e1
  have e2 : Rs F o (j + 1) p' (2 * a') = _ := e2
  have e3 : Rs F o (j + 1) p' (2 * a' + 1) = _ := e3
  rw [e0, e1, e2, e3]
  exact ⟨fun h => by rw [h]; exact ⟨rfl, rfl⟩, fun h => cof_ext _ h.1 h.2⟩
/-- the way of inputs -/
def wn (o : Nat → Nat) (x : Asg) : Nat → Nat
  | 0 => 0
  | j + 1 => 2 * wn o x j + (x (o j)).toNat
theorem wn_lt (o : Nat → Nat) (x : Asg) (j : Nat) : wn o x j < 2 ^ j := by
  induction j with
  | zero => exact Nat.one_pos
  | succ j ih =>
    rw [wn, Nat.pow_succ]
    cases x (o j) <;> simp <;> omega
theorem pre_wn {o : Nat → Nat} (ho : PO o) (x : Asg) : ∀ j : Nat, j ≤ 10 → ∀ k : Nat, bef o j k = true → pre o (wn o x j) j k = x k := by
  intro j
  induction j with
  | zero => intro _ k hk; exact absurd hk (by rw [bef_0]; decide)
  | succ j ih =>
    intro hj k hk
    rw [pre, wn]
    have e2 : (2 * wn o x j + (x (o j)).toNat) / 2 = wn o x j := by cases x (o j) <;> simp <;> omega
    have e1 : (2 * wn o x j + (x (o j)).toNat).testBit 0 = x (o j) := by
      rw [Nat.testBit_zero]
      cases x (o j)
      · exact decide_eq_false (by simp)
      · exact decide_eq_true (by simp)
    rw [e1, e2]
    by_cases h : k = o j
    · subst h; rw [upA_s]
    · rw [upA_n _ _ h]
      refine ih (by omega) k ?_
      rw [bef_s, beq_eq_false_iff_ne.mpr (Ne.symm h), Bool.or_false] at hk
      exact hk
theorem fx_congr {B : Nat → Bool} {a a' : Asg} (h : ∀ k : Nat, B k = true → a k = a' k) (f : Fn) : fx B a f = fx B a' f := by
  funext x
  unfold fx
  congr 1
  funext k
  unfold mix
  by_cases hk : B k = true
  · rw [if_pos hk, if_pos hk, h k hk]
  · rw [if_neg hk, if_neg hk]
theorem Rs_all {F : Nat → Nat → Bool} {o : Nat → Nat} (ho : PO o) {j : Nat} (hj : j ≤ 10) (p : Nat) (a : Asg) : ∃ w : Nat, w < 2 ^ j ∧ fx (bef o j) a (fnOf (F p)) = Rs F o j p w := ⟨wn o a j, wn_lt o a j, (fx_congr (fun k hk => pre_wn ho a j hj k hk) _).symm⟩
theorem pre_at {o : Nat → Nat} (ho : PO o) : ∀ j : Nat, j ≤ 10 → ∀ (a i : Nat), i < j → pre o a j (o i) = a.testBit (j - 1 - i) := by
  intro j
  induction j with
  | zero => intro _ a i hi; exact absurd hi (by omega)
  | succ j ih =>
    intro hj a i hi
    rw [pre]
    by_cases h : i = j
    · subst h; rw [upA_s]; congr 1; omega
    · rw [upA_n _ _ (fun e => h (ho.2 i j (by omega) (by omega) e)), ih (by omega) (a / 2) i (by omega), Nat.testBit_div_two]
      congr 1
      omega
/-- with all inputs asked -/
theorem Rs_end {F : Nat → Nat → Bool} {o : Nat → Nat} (ho : PO o) (p a : Nat) : Rs F o 10 p a = fun _ => F p (numT (pre o a 10) 10) := by
  funext x
  unfold Rs fx fnOf
  congr 1
  refine num_ext (fun i hi => ?_)
  unfold mix
  rw [ho.bef_all hi, if_pos rfl]
