/-! Diagrams: rise(), the places above -/
noncomputable def Wc (F : Nat → Nat → Bool) (r : Nat → Nat) (x c : Nat) : Nat := wh (PR 0 24) F (insO r c x)
/-- mates are asked -/
def MTT (F : Nat → Nat → Bool) (mt : Nat) : Prop := ∀ y : Nat, y < 10 → mt.testBit y = true → ∃ p : Nat, p < 24 ∧ dep (fnOf (F p)) y
section DR2
variable {L : Nat → Nat → Int64} {E : (Nat → Prop) × (Nat → Option PE)} {R : Nat × Nat} {o r : Nat → Nat} {F : Nat → Nat → Bool} {rt : Nat → Nat} {x pl c mt : Nat} {g : Nat → Nat} {D0 : Nat → Fn} {f0 : Nat}
theorem TM.s {e : Nat} {gt S S' : Nat → Nat} {I : Nat → Nat → Nat} {ln : Nat → Nat} (h : TM e f0 g gt S I ln) (h8 : S' 8 = S 8) (h9 : S' 9 = S 9) (h10 : S' 10 = S 10) : TM e f0 g gt S' I ln := by
  unfold TM at h ⊢
  rw [h8, h9, h10]
  exact h
theorem RKS.s {e : Nat} {gt gg S S' : Nat → Nat} {D : Nat → Fn} {N A : Nat} {I : Nat → Nat → Nat} {ln : Nat → Nat} (h : RKS e f0 g rt o r x c F D0 gt gg D N A S I ln) (hs : ∀ s : Nat, s ≠ 5 → s ≠ 6 → S' s = S s) : RKS e f0 g rt o r x c F D0 gt gg D N A S' I ln := by
  obtain ⟨a1, a2, a3, a4, a5, a6, a7, a8, a9, a10, a11, a12, a13, a14, a15⟩ := h
  have q14 := hs 14 (by decide) (by decide)
  have q13 := hs 13 (by decide) (by decide)
  unfold RKS
  rw [q14, q13]
  exact ⟨a1.s (hs 8 (by decide) (by decide)) (hs 9 (by decide) (by decide)) (hs 10 (by decide) (by decide)), a2, a3, a4, a5, a6, a7, a8, a9, a10, a11, a12, a13, a14, a15⟩
theorem W_up (hr : PR9 r x) (hx : x < 10) (hm : MTS F x mt) (ht : MTT F mt) : ∀ (d c : Nat), c + d ≤ 9 → Wc F r x (c + d) + lvX F r x c + mS' mt r (lvA F r) c ≤ Wc F r x c + lvX F r x (c + d) + mS' mt r (lvA F r) (c + d) := by
  intro d
  induction d with
  | zero => intro c _; exact Nat.le_refl _
  | succ d ih =>
    intro c hc
    have h1 := ih c (by omega)
    have h2 := wh_step (F := F) (r := r) (x := x) (c := c + d) (by omega)
    have hy := hr.1 (c + d) (by omega)
    rw [show c + (d + 1) = c + d + 1 by omega, mS_s]
    unfold Wc at h1 ⊢
    cases hb : mt.testBit (r (c + d))
    · have h3 := (lv_pass (F := F) hr (show c + d < 9 by omega) (fun p hp => hm.2 _ hy.1 hy.2 hb p hp)).1
      rw [if_neg (by decide)]
      omega
    · obtain ⟨p, hp, hd⟩ := ht _ hy.1 hb
      have h3 := lvB_pos (F := F) hr hx (show c + d < 9 by omega) hp hd
      have h4 := lvA_pos (F := F) hr hx (show c + d < 9 by omega) hp hd
      rw [if_pos rfl]
      omega
theorem W_same (hr : PR9 r x) (hm : MTS F x mt) {c : Nat} (hc : c < 9) (hb : mt.testBit (r c) = false) : Wc F r x (c + 1) = Wc F r x c := by
  have hy := hr.1 c hc
  have h2 := wh_step (F := F) (r := r) (x := x) (c := c) hc
  have h3 := lv_pass (F := F) hr hc (fun p hp => hm.2 _ hy.1 hy.2 hb p hp)
  unfold Wc
  omega
theorem mC_mono (mt : Nat) (r : Nat → Nat) (n : Nat) : ∀ d : Nat, mC mt r n ≤ mC mt r (n + d) := by
  intro d
  induction d with
  | zero => exact Nat.le_refl _
  | succ d ih => rw [show n + (d + 1) = n + d + 1 by omega, mC_s]; omega
theorem W_none (hr : PR9 r x) (hm : MTS F x mt) : ∀ c : Nat, c ≤ 9 → mC mt r c = 0 → ∀ c' : Nat, c' ≤ c → Wc F r x c' = Wc F r x c := by
  intro c
  induction c with
  | zero => intro _ _ c' h; rw [show c' = 0 by omega]
  | succ c ih =>
    intro hc h0 c' h
    rw [mC_s] at h0
    have hb : mt.testBit (r c) = false := by
      cases hb : mt.testBit (r c)
      · rfl
      · rw [hb, if_pos rfl] at h0; omega
    by_cases q : c' = c + 1
    · rw [q]
    · rw [ih (by omega) (by omega) c' (by omega), W_same hr hm (by omega) hb]
theorem W_le (hr : PR9 r x) (hx : x < 10) (hc : c < 10) : Wc F r x c ≤ 3324 := wh_le (insO_PO hr hx hc)
theorem X_le (hr : PR9 r x) (hx : x < 10) (hc : c < 10) : lvX F r x c ≤ 1536 := by
  rw [← lv_mid (F := F) (r := r) (x := x) (c := c)]
  exact qn_1536 (insO_PO hr hx hc) hc
theorem A_sum (hr : PR9 r x) (hx : x < 10) (hc : c < 10) : sumTo (lvA F r) c ≤ 3324 := by
  have h1 := W_le (F := F) hr hx hc
  unfold Wc wh at h1
  have key : ∀ M : Nat, M ≤ c → sumTo (lvA F r) M ≤ sumTo (qn (PR 0 24) F (insO r c x)) M := by
    intro M hM
    refine sumTo_mono2 M (fun j hj => ?_)
    rw [lv_lo (F := F) (r := r) (x := x) (c := c) (j := j) (by omega)]
    exact Nat.le_refl _
  have k := key c (Nat.le_refl _)
  have mono : ∀ d : Nat, sumTo (qn (PR 0 24) F (insO r c x)) c ≤ sumTo (qn (PR 0 24) F (insO r c x)) (c + d) := by
    intro d
    induction d with
    | zero => exact Nat.le_refl _
    | succ d ih => rw [show c + (d + 1) = c + d + 1 by omega, sumTo]; omega
  have m := mono (10 - c)
  rw [show c + (10 - c) = 10 by omega] at m
  omega
theorem mS_le (mt : Nat) (r a : Nat → Nat) : ∀ n : Nat, mS' mt r a n ≤ sumTo a n := by
  intro n
  unfold mS'
  exact sumTo_mono2 n (fun j _ => by split <;> omega)
/-- the first of the least between c and pl -/
def MIN (s : Nat → Nat) (c pl lst bb : Nat) : Prop := lst = s bb ∧ c ≤ bb ∧ bb ≤ pl ∧ (∀ q : Nat, c ≤ q → q ≤ pl → lst ≤ s q) ∧ ∀ q : Nat, c ≤ q → q < bb → lst < s q
/-- a trial above, between two steps -/
def RB (L : Nat → Nat → Int64) (E : (Nat → Prop) × (Nat → Option PE)) (R : Nat × Nat) (o r : Nat → Nat) (F : Nat → Nat → Bool) (rt : Nat → Nat) (x c f0 : Nat) (g : Nat → Nat) (D0 : Nat → Fn) (ad S : Nat → Nat) (I : Nat → Nat → Nat) (ln : Nat → Nat) (z : Nat × Nat) (u : PS) (e : Nat) (gt gg : Nat → Nat) (D : Nat → Fn) : Prop :=
  VC 69 ad S I ln L E z u ∧ SH R S ln z e ∧ TSH ln e ∧ RC e g rt (fun _ => 0) (I 8) ∧ RKS e f0 g rt o r x c F D0 gt gg D (Wc F r x c) (lvX F r x c) S I ln
theorem RKS.num {e : Nat} {gt gg S : Nat → Nat} {D : Nat → Fn} {N A : Nat} {I : Nat → Nat → Nat} {ln : Nat → Nat} (h : RKS e f0 g rt o r x c F D0 gt gg D N A S I ln) (hr : PR9 r x) (hx : x < 10) (hc : c < 10) : N = Wc F r x c ∧ A = lvX F r x c := by
  obtain ⟨a1, a2, a3, a4, a5, a6, a7, a8, a9, a10, a11, a12, a13, a14, a15⟩ := h
  have ho := insO_PO hr hx hc
  refine ⟨(a3.nw ho a13).symm, ?_⟩
  have := a3.nq ho (i := c) hc (N := A) (by rw [insO_at]; exact a14)
  rw [← this, lv_mid]
/-- inputs that no function has together -/
theorem RKS.skip {e : Nat} {gt gg S : Nat → Nat} {D : Nat → Fn} {N A : Nat} {I : Nat → Nat → Nat} {ln : Nat → Nat} (h : RKS e f0 g rt o r x (c + 1) F D0 gt gg D N A S I ln) (hr : PR9 r x) (hx : x < 10) (hc : c < 9) (hn : ∀ p : Nat, p < 24 → ¬ (dep (fnOf (F p)) x ∧ dep (fnOf (F p)) (r c))) : RKS e f0 g rt o r x c F D0 gt gg D N A S I ln := by
  obtain ⟨a1, a2, a3, a4, a5, a6, a7, a8, a9, a10, a11, a12, a13, a14, a15⟩ := h
  have ho : PO (insO r (c + 1) x) := insO_PO hr hx (by omega)
  have hs : SW (insO r (c + 1) x) (insO r c x) c := (ins_sw r x hc).symm
  have ey : insO r (c + 1) x c = r c := ins_lt r x (by omega)
  have ex : insO r (c + 1) x (c + 1) = x := insO_at r (c + 1) x
  refine ⟨a1, a2, ⟨hs.pass ho a3.1 (fun n hn2 hd => ?_), a3.2⟩, a4, a5, a6, a7, a8, fun n hn2 htr => a9 n hn2 (htr.elim Or.inl (fun ⟨j, w1, w2⟩ => Or.inr ⟨j, by omega, w2⟩)), a10, a11, a12, a13, a14, a15⟩
  obtain ⟨j, hj, ej⟩ := ho.sur (a3.1.k hn2)
  obtain ⟨p, hp, a, ea⟩ := a3.sound ho j n hj hn2 ej.symm
  rw [ea, ex, ey] at hd
  exact hn p hp ⟨fx_dep hd.2, fx_dep hd.1⟩
end DR2
