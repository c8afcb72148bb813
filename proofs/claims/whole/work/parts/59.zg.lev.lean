/-! sizes with an input at another place -/
noncomputable def lvl (F : Nat → Nat → Bool) (B : Nat → Bool) (k : Nat) : Nat := cn (QP (PR 0 24) F B k)
noncomputable def lvA (F : Nat → Nat → Bool) (r : Nat → Nat) (j : Nat) : Nat := lvl F (bef r j) (r j)
noncomputable def lvX (F : Nat → Nat → Bool) (r : Nat → Nat) (x c : Nat) : Nat := lvl F (bef r c) x
noncomputable def lvB (F : Nat → Nat → Bool) (r : Nat → Nat) (x j : Nat) : Nat := lvl F (bef (insO r j x) (j + 1)) (r j)
section LEV
variable {F : Nat → Nat → Bool} {r : Nat → Nat} {x c : Nat}
theorem lv_lo {j : Nat} (h : j < c) : qn (PR 0 24) F (insO r c x) j = lvA F r j := by
  unfold qn lvA lvl
  rw [ins_lt r x h, bef_congr (o := r) (o' := insO r c x) (fun l hl => ins_lt r x (by omega))]
theorem lv_mid : qn (PR 0 24) F (insO r c x) c = lvX F r x c := by
  unfold qn lvX lvl
  rw [insO_at, bef_congr (o := r) (o' := insO r c x) (fun l hl => ins_lt r x hl)]
/-- the inputs before a place, x among them -/
theorem bef_ins {c : Nat} {j k : Nat} (h : c ≤ j) : bef (insO r c x) (j + 1) k = (bef r j k || (x == k)) := by
  cases hb : bef (insO r c x) (j + 1) k
  · symm
    rw [Bool.or_eq_false_iff]
    constructor
    · cases h2 : bef r j k
      · rfl
      · obtain ⟨i, hi, e⟩ := bef_iff.mp h2
        have : bef (insO r c x) (j + 1) k = true := by
          by_cases q : i < c
          · exact bef_iff.mpr ⟨i, by omega, by rw [ins_lt r x q]; exact e⟩
          · refine bef_iff.mpr ⟨i + 1, by omega, ?_⟩
            unfold insO
            rw [if_neg (by omega), if_neg (by omega)]
            exact e
        rw [this] at hb
        exact absurd hb (by decide)
    · cases h2 : (x == k)
      · rfl
      · have : bef (insO r c x) (j + 1) k = true := bef_iff.mpr ⟨c, by omega, by rw [insO_at]; exact beq_iff_eq.mp h2⟩
        rw [this] at hb
        exact absurd hb (by decide)
  · symm
    obtain ⟨i, hi, e⟩ := bef_iff.mp hb
    by_cases q : i < c
    · rw [ins_lt r x q] at e
      rw [bef_iff.mpr ⟨i, by omega, e⟩, Bool.true_or]
    · by_cases q2 : i = c
      · subst q2
        rw [insO_at] at e
        rw [beq_iff_eq.mpr e, Bool.or_true]
      · unfold insO at e
        rw [if_neg q, if_neg q2] at e
        rw [bef_iff.mpr ⟨i - 1, by omega, e⟩, Bool.true_or]
theorem lv_hi {j : Nat} (h : c ≤ j) : qn (PR 0 24) F (insO r c x) (j + 1) = lvB F r x j := by
  unfold qn lvB lvl
  have e1 : insO r c x (j + 1) = r j := by
    unfold insO
    rw [if_neg (by omega), if_neg (by omega)]
    congr 1
  have e2 : bef (insO r c x) (j + 1) = bef (insO r j x) (j + 1) := by
    funext k
    rw [bef_ins h, bef_ins (Nat.le_refl j)]
  rw [e1, e2]
/-- one place further -/
theorem wh_step (hc : c < 9) : wh (PR 0 24) F (insO r (c + 1) x) + lvX F r x c + lvB F r x c = wh (PR 0 24) F (insO r c x) + lvX F r x (c + 1) + lvA F r c := by
  have key : ∀ N : Nat, c + 2 ≤ N → sumTo (qn (PR 0 24) F (insO r (c + 1) x)) N + lvX F r x c + lvB F r x c = sumTo (qn (PR 0 24) F (insO r c x)) N + lvX F r x (c + 1) + lvA F r c := by
    intro N
    induction N with
    | zero => intro h; exact absurd h (by omega)
    | succ N ih =>
      intro h
      by_cases q : c + 2 ≤ N
      · have h1 := ih q
        rw [sumTo, sumTo]
        obtain ⟨k, rfl⟩ : ∃ k, N = k + 1 := ⟨N - 1, by omega⟩
        rw [lv_hi (F := F) (r := r) (x := x) (c := c + 1) (j := k) (by omega), lv_hi (F := F) (r := r) (x := x) (c := c) (j := k) (by omega)]
        omega
      · obtain rfl : N = c + 1 := by omega
        rw [sumTo, sumTo, sumTo, sumTo]
        have e1 : sumTo (qn (PR 0 24) F (insO r (c + 1) x)) c = sumTo (qn (PR 0 24) F (insO r c x)) c := by
          have lo : ∀ M : Nat, M ≤ c → sumTo (qn (PR 0 24) F (insO r (c + 1) x)) M = sumTo (qn (PR 0 24) F (insO r c x)) M := by
            intro M
            induction M with
            | zero => intro _; rfl
            | succ M ihM => intro hM; rw [sumTo, sumTo, ihM (by omega), lv_lo (by omega), lv_lo (by omega)]
          exact lo c (Nat.le_refl _)
        rw [e1, lv_lo (F := F) (r := r) (x := x) (c := c + 1) (j := c) (by omega), lv_mid (c := c + 1), lv_mid (c := c), lv_hi (F := F) (r := r) (x := x) (c := c) (j := c) (Nat.le_refl _)]
        omega
  exact key 10 (by omega)
/-- a function that uses k asks it somewhere -/
theorem lvl_pos {B : Nat → Bool} {k p : Nat} (hp : p < 24) (hk : B k = false) (hd : dep (fnOf (F p)) k) {n : Nat} (hn : Cnt (QP (PR 0 24) F B k) n) : 1 ≤ n := by
  obtain ⟨y, hy⟩ := dep_iff.mp hd
  have hq : QP (PR 0 24) F B k (fx B y (fnOf (F p))) := by
    refine ⟨⟨p, (PR024 p).mpr hp, y, rfl⟩, dep_iff.mpr ⟨y, ?_⟩⟩
    have e : ∀ c : Bool, mix B y (upA y k c) = upA y k c := fun c => by
      funext l
      unfold mix
      by_cases q : l = k
      · subst q; rw [hk]; simp
      · rw [upA_n _ _ q]; split <;> rfl
    show fnOf (F p) (mix B y (upA y k false)) ≠ fnOf (F p) (mix B y (upA y k true))
    rw [e, e]
    exact hy
  refine Classical.byContradiction (fun w => ?_)
  obtain rfl : n = 0 := by omega
  exact hn.empty _ hq
theorem bef_nr (hr : PR9 r x) {j : Nat} (hj : j < 9) : bef r j (r j) = false := by
  cases hb : bef r j (r j)
  · rfl
  · obtain ⟨i, hi, e⟩ := bef_iff.mp hb
    have := hr.2 i j (by omega) hj e
    omega
theorem bef_nx (hr : PR9 r x) {j : Nat} (hj : j ≤ 9) : bef r j x = false := by
  cases hb : bef r j x
  · rfl
  · obtain ⟨i, hi, e⟩ := bef_iff.mp hb
    exact absurd e (hr.1 i (by omega)).2
theorem lv_cntA (hr : PR9 r x) (hx : x < 10) {j : Nat} (hj : j < 9) (k : Nat) : ∃ n : Nat, Cnt (QP (PR 0 24) F (bef r j) k) n := by
  have ho : PO (insO r 9 x) := insO_PO hr hx (by omega)
  obtain ⟨n, _, h⟩ := qn_cap (F := F) ho (show j < 10 by omega) k
  rw [bef_congr (o := r) (o' := insO r 9 x) (fun l hl => ins_lt r x (by omega))] at h
  exact ⟨n, h⟩
theorem lv_cntX (hr : PR9 r x) (hx : x < 10) {j : Nat} (hj : j ≤ 9) (k : Nat) : ∃ n : Nat, Cnt (QP (PR 0 24) F (bef r j) k) n := by
  have ho : PO (insO r j x) := insO_PO hr hx (by omega)
  obtain ⟨n, _, h⟩ := qn_cap (F := F) ho (show j < 10 by omega) k
  rw [bef_congr (o := r) (o' := insO r j x) (fun l hl => ins_lt r x hl)] at h
  exact ⟨n, h⟩
theorem lv_cntB (hr : PR9 r x) (hx : x < 10) {j : Nat} (hj : j < 9) (k : Nat) : ∃ n : Nat, Cnt (QP (PR 0 24) F (bef (insO r j x) (j + 1)) k) n := by
  have ho : PO (insO r j x) := insO_PO hr hx (by omega)
  obtain ⟨n, _, h⟩ := qn_cap (F := F) ho (show j + 1 < 10 by omega) k
  exact ⟨n, h⟩
theorem lvX_pos (hr : PR9 r x) (hx : x < 10) (hc : c ≤ 9) {p : Nat} (hp : p < 24) (hd : dep (fnOf (F p)) x) : 1 ≤ lvX F r x c := by
  obtain ⟨n, hn⟩ := lv_cntX (F := F) hr hx hc x
  unfold lvX lvl
  rw [cn_eq hn]
  exact lvl_pos hp (bef_nx hr hc) hd hn
theorem lvB_pos (hr : PR9 r x) (hx : x < 10) (hc : c < 9) {p : Nat} (hp : p < 24) (hd : dep (fnOf (F p)) (r c)) : 1 ≤ lvB F r x c := by
  obtain ⟨n, hn⟩ := lv_cntB (F := F) hr hx hc (r c)
  unfold lvB lvl
  rw [cn_eq hn]
  refine lvl_pos hp ?_ hd hn
  rw [bef_ins (Nat.le_refl c), bef_nr hr hc, Bool.false_or]
  exact beq_eq_false_iff_ne.mpr (hr.1 c hc).2.symm
theorem lvA_pos (hr : PR9 r x) (hx : x < 10) (hc : c < 9) {p : Nat} (hp : p < 24) (hd : dep (fnOf (F p)) (r c)) : 1 ≤ lvA F r c := by
  obtain ⟨n, hn⟩ := lv_cntA (F := F) hr hx hc (r c)
  unfold lvA lvl
  rw [cn_eq hn]
  exact lvl_pos hp (bef_nr hr hc) hd hn
/-- what is left with x too -/
theorem fx_ins (hr : PR9 r x) (hc : c ≤ 9) (a : Asg) (f : Fn) : fx (bef (insO r c x) (c + 1)) a f = cof x (a x) (fx (bef r c) a f) := by
  funext y
  unfold fx cof
  congr 1
  funext k
  unfold mix
  rw [bef_ins (Nat.le_refl c)]
  by_cases hk : k = x
  · subst hk
    rw [bef_nx hr hc, upA_s]
    simp
  · rw [upA_n _ _ hk, beq_eq_false_iff_ne.mpr (Ne.symm hk), Bool.or_false]
/-- those that no function has together pass one another -/
theorem lv_pass (hr : PR9 r x) (hc : c < 9) (hn : ∀ p : Nat, p < 24 → ¬ (dep (fnOf (F p)) x ∧ dep (fnOf (F p)) (r c))) : lvA F r c = lvB F r x c ∧ lvX F r x c = lvX F r x (c + 1) := by
  constructor
  · unfold lvA lvB lvl
    congr 1
    funext f
    refine propext ⟨fun ⟨⟨p, hp, a, e⟩, hd⟩ => ⟨⟨p, hp, a, ?_⟩, hd⟩, fun ⟨⟨p, hp, a, e⟩, hd⟩ => ⟨⟨p, hp, a, ?_⟩, hd⟩⟩
    · rw [fx_ins hr (by omega), ← e]
      refine (not_dep (fun w => hn p ((PR024 p).mp hp) ⟨?_, ?_⟩) _).symm
      · rw [e] at w; exact fx_dep w
      · rw [e] at hd; exact fx_dep hd
    · rw [fx_ins hr (by omega)] at e
      rw [e]
      refine not_dep (fun w => hn p ((PR024 p).mp hp) ⟨fx_dep w, ?_⟩) _
      rw [e] at hd
      exact fx_dep (cof_dep hd)
  · unfold lvX lvl
    congr 1
    have hb : ∀ (a : Asg) (f : Fn), fx (bef r (c + 1)) a f = cof (r c) (a (r c)) (fx (bef r c) a f) := fun a f => by
      funext y
      unfold fx cof
      congr 1
      funext k
      unfold mix
      rw [bef_s]
      by_cases hk : k = r c
      · subst hk
        rw [bef_nr hr hc, upA_s]
        simp
      · rw [upA_n _ _ hk, beq_eq_false_iff_ne.mpr (Ne.symm hk), Bool.or_false]
    funext f
    refine propext ⟨fun ⟨⟨p, hp, a, e⟩, hd⟩ => ⟨⟨p, hp, a, ?_⟩, hd⟩, fun ⟨⟨p, hp, a, e⟩, hd⟩ => ⟨⟨p, hp, a, ?_⟩, hd⟩⟩
    · rw [hb, ← e]
      refine (not_dep (fun w => hn p ((PR024 p).mp hp) ⟨?_, ?_⟩) _).symm
      · rw [e] at hd; exact fx_dep hd
      · rw [e] at w; exact fx_dep w
    · rw [hb] at e
      rw [e]
      refine not_dep (fun w => hn p ((PR024 p).mp hp) ⟨?_, fx_dep w⟩) _
      rw [e] at hd
      exact fx_dep (cof_dep hd)
/-- no more than two become one -/
theorem lv_half (hr : PR9 r x) (hx : x < 10) (hc : c < 9) : lvB F r x c ≤ 2 * lvA F r c := by
  obtain ⟨n, hn⟩ := lv_cntA (F := F) hr hx hc (r c)
  obtain ⟨m, hm⟩ := lv_cntB (F := F) hr hx hc (r c)
  have e1 : lvA F r c = n := cn_eq hn
  have e2 : lvB F r x c = m := cn_eq hm
  rw [e1, e2]
  obtain ⟨f, f1, f2, f3⟩ := hn
  obtain ⟨m', h1, h2⟩ := Cnt.ex (2 * n) (fun i => cof x (decide (i % 2 = 1)) (f (i / 2))) (QP (PR 0 24) F (bef (insO r c x) (c + 1)) (r c)) (fun q hq => by
    obtain ⟨⟨p, hp, a, e⟩, hd⟩ := hq
    rw [fx_ins hr (by omega)] at e
    rw [e] at hd
    obtain ⟨i, hi, ei⟩ := f3 (fx (bef r c) a (fnOf (F p))) ⟨⟨p, hp, a, rfl⟩, cof_dep hd⟩
    cases hax : a x
    · refine ⟨2 * i, by omega, ?_⟩
      rw [show 2 * i / 2 = i by omega, ei, e, hax, decide_eq_false (by omega)]
    · refine ⟨2 * i + 1, by omega, ?_⟩
      rw [show (2 * i + 1) / 2 = i by omega, ei, e, hax, decide_eq_true (by omega)])
  have := hm.uniq h2
  omega
end LEV
