/-! how many questions there can be -/
theorem numT_lt (x : Nat → Bool) (n : Nat) : numT x n < 2 ^ n := by
  refine Nat.lt_pow_two_of_testBit (n := n) _ (fun i hi => ?_)
  rw [tb_num, decide_eq_false (by omega), Bool.false_and]
theorem numT_tb (x : Nat → Bool) {n i : Nat} (hi : i < n) : (numT x n).testBit i = x i := by rw [tb_num, decide_eq_true hi, Bool.true_and]
/-- what asks only behind j -/
theorem low_agree {o : Nat → Nat} (ho : PO o) {j : Nat} (hj : j ≤ 10) {f : Fn} (ht : Tame f) (hd : ∀ l : Nat, l < j → ¬ dep f (o l)) {x y : Asg} (h : ∀ l : Nat, j ≤ l → l < 10 → x (o l) = y (o l)) : f x = f y := by
  have e : ∀ z : Asg, f z = f (mix (bef o j) (fun _ => false) z) := fun z => by
    have := congrFun (fx_id ho hj (fun _ => false) hd) z
    exact this.symm
  rw [e x, e y]
  refine ht _ _ (fun k hk => ?_)
  unfold mix
  by_cases c : bef o j k = true
  · rw [if_pos c, if_pos c]
  · rw [if_neg c, if_neg c]
    obtain ⟨l, hl, el⟩ := ho.sur hk
    rw [← el]
    refine h l ?_ hl
    refine Classical.byContradiction (fun w => c (bef_iff.mpr ⟨l, by omega, el⟩))
theorem QP_tame {P : Nat → Prop} {F : Nat → Nat → Bool} {B : Nat → Bool} {k : Nat} {f : Fn} (h : QP P F B k f) : Tame f := by
  obtain ⟨⟨p, _, a, e⟩, _⟩ := h
  rw [e]
  exact tame_fx (tame_fnOf _) _ _
/-- by the ways to it -/
theorem cap_ways {F : Nat → Nat → Bool} {o : Nat → Nat} (ho : PO o) {j : Nat} (hj : j ≤ 10) (k : Nat) : ∃ n : Nat, n ≤ 24 * 2 ^ j ∧ Cnt (QP (PR 0 24) F (bef o j) k) n := by
  refine Cnt.ex (24 * 2 ^ j) (fun i => Rs F o j (i / 2 ^ j) (i % 2 ^ j)) _ (fun f hf => ?_)
  obtain ⟨⟨p, hp, a, e⟩, _⟩ := hf
  have hp := (PR024 p).mp hp
  obtain ⟨w, hw, ew⟩ := Rs_all (F := F) ho hj p a
  have hpos : 0 < 2 ^ j := Nat.pow_pos (by decide)
  refine ⟨p * 2 ^ j + w, ?_, ?_⟩
  · have : p * 2 ^ j + 2 ^ j ≤ 24 * 2 ^ j := by
      rw [← Nat.succ_mul]
      exact Nat.mul_le_mul_right _ (by omega)
    omega
  · rw [Nat.add_comm, Nat.add_mul_div_right _ _ hpos, Nat.add_mul_mod_self_right, Nat.div_eq_of_lt hw, Nat.mod_eq_of_lt hw, Nat.zero_add, e, ew]
/-- by the functions of what is left -/
theorem cap_fun {F : Nat → Nat → Bool} {o : Nat → Nat} (ho : PO o) {j r : Nat} (hj : j + r = 10) (k : Nat) : ∃ n : Nat, n ≤ 2 ^ 2 ^ r ∧ Cnt (QP (PR 0 24) F (bef o j) k) n := by
  refine Cnt.ex (2 ^ 2 ^ r) (fun m => fun x => m.testBit (numT (fun i => x (o (j + i))) r)) _ (fun f hf => ?_)
  have ht := QP_tame hf
  obtain ⟨⟨p, hp, a, e⟩, _⟩ := hf
  have hd : ∀ l : Nat, l < j → ¬ dep f (o l) := fun l hl => by
    rw [e]; exact fx_nd (bef_iff.mpr ⟨l, hl, rfl⟩) _ _
  refine ⟨numT (fun b => f (fun q => b.testBit (posO o q - j))) (2 ^ r), numT_lt _ _, ?_⟩
  funext x
  rw [numT_tb _ (numT_lt _ r)]
  refine low_agree ho (by omega) ht hd (fun l l1 l2 => ?_)
  rw [posO_eq ho l2 rfl, numT_tb _ (by omega), show j + (l - j) = l by omega]
def capJ (j : Nat) : Nat := match j with
  | 7 => 256
  | 8 => 16
  | 9 => 4
  | j => 24 * 2 ^ j
theorem qn_cap {F : Nat → Nat → Bool} {o : Nat → Nat} (ho : PO o) {j : Nat} (hj : j < 10) (k : Nat) : ∃ n : Nat, n ≤ capJ j ∧ Cnt (QP (PR 0 24) F (bef o j) k) n := by
  by_cases c : j ≤ 6
  · obtain ⟨n, h1, h2⟩ := cap_ways (F := F) ho (show j ≤ 10 by omega) k
    refine ⟨n, ?_, h2⟩
    rcases (by omega : j = 0 ∨ j = 1 ∨ j = 2 ∨ j = 3 ∨ j = 4 ∨ j = 5 ∨ j = 6) with rfl | rfl | rfl | rfl | rfl | rfl | rfl <;> exact h1
  · obtain ⟨n, h1, h2⟩ := cap_fun (F := F) ho (show j + (10 - j) = 10 by omega) k
    refine ⟨n, ?_, h2⟩
    rcases (by omega : j = 7 ∨ j = 8 ∨ j = 9) with rfl | rfl | rfl <;> exact h1
theorem qn_le {F : Nat → Nat → Bool} {o : Nat → Nat} (ho : PO o) {j : Nat} (hj : j < 10) : qn (PR 0 24) F o j ≤ capJ j := by
  obtain ⟨n, h1, h2⟩ := qn_cap (F := F) ho hj (o j)
  unfold qn
  rw [cn_eq h2]
  exact h1
theorem cap_1536 {j : Nat} (hj : j < 10) : capJ j ≤ 1536 := by
  rcases (by omega : j = 0 ∨ j = 1 ∨ j = 2 ∨ j = 3 ∨ j = 4 ∨ j = 5 ∨ j = 6 ∨ j = 7 ∨ j = 8 ∨ j = 9) with rfl | rfl | rfl | rfl | rfl | rfl | rfl | rfl | rfl | rfl <;> decide
theorem sumTo_mono2 {f f' : Nat → Nat} : ∀ N : Nat, (∀ m : Nat, m < N → f m ≤ f' m) → sumTo f N ≤ sumTo f' N := by
  intro N
  induction N with
  | zero => intro _; exact Nat.le_refl _
  | succ N ih => intro h; rw [sumTo, sumTo]; have := h N (by omega); have := ih (fun m hm => h m (by omega)); omega
theorem cap_sum : sumTo capJ 10 = 3324 := by decide
theorem wh_le {F : Nat → Nat → Bool} {o : Nat → Nat} (ho : PO o) : wh (PR 0 24) F o ≤ 3324 := by
  have := sumTo_mono2 (f := qn (PR 0 24) F o) (f' := capJ) 10 (fun m hm => qn_le ho hm)
  rw [cap_sum] at this
  exact this
theorem qn_1536 {F : Nat → Nat → Bool} {o : Nat → Nat} (ho : PO o) {j : Nat} (hj : j < 10) : qn (PR 0 24) F o j ≤ 1536 := Nat.le_trans (qn_le ho hj) (cap_1536 hj)
