/-! Drawing: exchange(), arrange(): the table with its bits in another order -/
def swb (l h v : Nat) : Nat := setb (setb v l (v.testBit h)) h (v.testBit l)
theorem tb_swb (l h v i : Nat) : (swb l h v).testBit i = if i = h then v.testBit l else if i = l then v.testBit h else v.testBit i := by unfold swb; rw [tb_setb, tb_setb]
theorem swb_lt {l h v : Nat} (hl : l < 10) (hh : h < 10) (hv : v < 1024) : swb l h v < 1024 := setb_lt (n := 10) _ (setb_lt (n := 10) _ hv hl) hh
def TB (r : Nat → Int64) (v : Nat) : Bool := WB (r (v / 64)) (v % 64)
theorem TB_wb (r : Nat → Int64) (w : Nat) {b : Nat} (hb : b < 64) : TB r (64 * w + b) = WB (r w) b := by unfold TB; rw [show (64 * w + b) / 64 = w by omega, show (64 * w + b) % 64 = b by omega]
theorem swb_hi {l h y b : Nat} (hl : 6 ≤ l) (hh : 6 ≤ h) (hb : b < 64) : swb l h (64 * y + b) = 64 * swb (l - 6) (h - 6) y + b := by
  unfold swb
  rw [wb_set1 _ hb hl, wb_set1 _ hb hh, tb_wb _ hb, tb_wb _ hb, if_neg (by omega), if_neg (by omega)]
theorem swb_lo {l h y b : Nat} (hl : l < 6) (hh : h < 6) (hb : b < 64) : swb l h (64 * y + b) = 64 * y + swb l h b := by
  unfold swb
  rw [wb_set0 _ hb hl, wb_set0 _ (setb_6 _ hb hl) hh, tb_wb _ hb, tb_wb _ hb, if_pos hl, if_pos hh]
theorem swb_ac {l h y b : Nat} (hl : l < 6) (hh : 6 ≤ h) (hb : b < 64) : swb l h (64 * y + b) = 64 * setb y (h - 6) (b.testBit l) + setb b l (y.testBit (h - 6)) := by
  unfold swb
  rw [wb_set0 _ hb hl, wb_set1 _ (setb_6 _ hb hl) hh, tb_wb _ hb, tb_wb _ hb, if_pos hl, if_neg (by omega)]
/-- some of the words are done -/
def XV (l h kept w : Nat) (r r' : Nat → Int64) : Prop := ∀ y b : Nat, y < 16 → b < 64 → WB (r' y) b = if (y &&& kept) < w then TB r (swb l h (64 * y + b)) else WB (r y) b
section XVs
variable {l h kept w : Nat} {r r' : Nat → Int64}
theorem XV.same (hx : XV l h kept w r r') {y : Nat} (hy : y < 16) (hk : (y &&& kept) = w) : r' y = r y := w_ext (fun b hb => by rw [hx y b hy hb, if_neg (by omega)])
theorem XV.step (hx : XV l h kept w r r') (hk : kept < 16) (hw : w < 16) (hs : w &&& kept = w) {r'' : Nat → Int64} (h1 : ∀ y b : Nat, y < 16 → b < 64 → (y &&& kept) = w → WB (r'' y) b = TB r (swb l h (64 * y + b))) (h2 : ∀ y : Nat, y < 16 → (y &&& kept) ≠ w → r'' y = r' y) : XV l h kept (nxw kept w) r r'' := by
  intro y b hy hb
  obtain ⟨n1, _, _⟩ := nxw_s kept hk w hw hs
  by_cases c : (y &&& kept) = w
  · rw [h1 y b hy hb c, if_pos (by omega)]
  · rw [h2 y hy c, hx y b hy hb]
    by_cases d : (y &&& kept) < w
    · rw [if_pos d, if_pos (by omega)]
    · rw [if_neg d, if_neg (fun a => ?_)]
      have := nxw_g kept hk w hw hs (y &&& kept) a (by rw [Nat.and_assoc, Nat.and_self])
      omega
theorem XV.start (l h kept : Nat) (r : Nat → Int64) : XV l h kept 0 r r := fun y b _ _ => by rw [if_neg (by omega)]
theorem XV.done (hx : XV l h kept 16 r r') {v : Nat} (hv : v < 1024) : TB r' v = TB r (swb l h v) := by
  have e : 64 * (v / 64) + v % 64 = v := by omega
  have := hx (v / 64) (v % 64) (by omega) (by omega)
  rw [if_pos (and_lt16 (by omega)), e] at this
  exact this
end XVs
/-- within words -/
theorem ex_w1 : ∀ h : Nat, h < 6 → ∀ l : Nat, l < h → ∀ b : Nat, b < 64 → (b.testBit l && !b.testBit h) = true → 2 ^ h - 2 ^ l + b = swb l h b ∧ (2 ^ h - 2 ^ l ≤ b → ((b - (2 ^ h - 2 ^ l)).testBit l && !(b - (2 ^ h - 2 ^ l)).testBit h) = false) := by decide +kernel
theorem ex_w2 : ∀ h : Nat, h < 6 → ∀ l : Nat, l < h → ∀ b : Nat, b < 64 → (!b.testBit l && b.testBit h) = true → (2 ^ h - 2 ^ l ≤ b ∧ b - (2 ^ h - 2 ^ l) = swb l h b) ∧ ((b - (2 ^ h - 2 ^ l)).testBit l && !(b - (2 ^ h - 2 ^ l)).testBit h) = true := by decide +kernel
theorem ex_w3 : ∀ h : Nat, h < 6 → ∀ l : Nat, l < h → ∀ b : Nat, b < 64 → b.testBit l = b.testBit h → swb l h b = b ∧ (2 ^ h - 2 ^ l ≤ b → ((b - (2 ^ h - 2 ^ l)).testBit l && !(b - (2 ^ h - 2 ^ l)).testBit h) = false) := by decide +kernel
theorem ex_w4 : ∀ h : Nat, h < 6 → ∀ l : Nat, l < h → 2 ^ l ≤ 2 ^ h ∧ 2 ^ h - 2 ^ l < 64 := by decide
theorem w_exw {l h : Nat} (hl : l < h) (hh : h < 6) (x : Int64) {un : Int64} (hu : un = ((((x.toUInt64 >>> ((nI (2 ^ h - 2 ^ l)).toInt64.toUInt64 &&& Int64.toUInt64 63)).toInt64) ^^^ x) &&& (tab_ONES l &&& (tab_ONES h ^^^ (-1))))) {b : Nat} (hb : b < 64) : WB ((x ^^^ un) ^^^ (un <<< ((nI (2 ^ h - 2 ^ l)).toInt64 &&& 63))) b = WB x (swb l h b) := by
  have s := (ex_w4 h hh l hl).2
  have un' : ∀ c : Nat, c < 64 → WB un c = ((WB x (2 ^ h - 2 ^ l + c) ^^ WB x c) && (c.testBit l && !c.testBit h)) := fun c hc => by
    rw [hu, w_and, w_xor, w_ushr s, w_and, w_not _ hc, ones_tb l (by omega) c hc, ones_tb h hh c hc]
  rw [w_xor, w_xor, w_shl s _ hb, un' b hb]
  cases hm : (b.testBit l && !b.testBit h)
  · by_cases e : b.testBit l = b.testBit h
    · obtain ⟨e1, e2⟩ := ex_w3 h hh l hl b hb e
      rw [e1]
      by_cases d : 2 ^ h - 2 ^ l ≤ b
      · rw [un' _ (by omega), e2 d]; simp
      · rw [decide_eq_false d]; simp
    · have hm2 : (!b.testBit l && b.testBit h) = true := by
        revert hm e
        cases b.testBit l <;> cases b.testBit h <;> simp
      obtain ⟨⟨e1, e2⟩, e3⟩ := ex_w2 h hh l hl b hb hm2
      rw [un' _ (by omega), e3, decide_eq_true e1, show 2 ^ h - 2 ^ l + (b - (2 ^ h - 2 ^ l)) = b by omega, e2, Bool.and_false]
      cases WB x b <;> cases WB x (swb l h b) <;> rfl
  · obtain ⟨e1, e2⟩ := ex_w1 h hh l hl b hb hm
    rw [e1]
    by_cases d : 2 ^ h - 2 ^ l ≤ b
    · rw [un' _ (by omega), e2 d]
      cases WB x b <;> cases WB x (swb l h b) <;> simp
    · rw [decide_eq_false d]
      cases WB x b <;> cases WB x (swb l h b) <;> rfl
/-- across words -/
theorem ex_a1 : ∀ j : Nat, j < 4 → ∀ w : Nat, w < 16 → w &&& (15 ^^^ 2 ^ j) = w → w.testBit j = false ∧ w ||| 2 ^ j = setb w j true ∧ w ||| 2 ^ j < 16 := by decide +kernel
theorem ex_a2 : ∀ j : Nat, j < 4 → ∀ w : Nat, w < 16 → w &&& (15 ^^^ 2 ^ j) = w → ¬ (w ||| 2 ^ j = w) ∧ ((w ||| 2 ^ j) &&& (15 ^^^ 2 ^ j)) = w := by decide +kernel
theorem ex_a3 : ∀ j : Nat, j < 4 → ∀ w : Nat, w < 16 → ∀ y : Nat, y < 16 → (y &&& (15 ^^^ 2 ^ j)) = w → y = w ∨ y = w ||| 2 ^ j := by decide +kernel
theorem ex_a {j w : Nat} (hj : j < 4) (hw : w < 16) (h : w &&& (15 ^^^ 2 ^ j) = w) : w.testBit j = false ∧ w ||| 2 ^ j = setb w j true ∧ w ||| 2 ^ j < 16 ∧ w ||| 2 ^ j ≠ w ∧ ((w ||| 2 ^ j) &&& (15 ^^^ 2 ^ j)) = w ∧ ∀ y : Nat, y < 16 → (y &&& (15 ^^^ 2 ^ j)) = w → y = w ∨ y = w ||| 2 ^ j :=
  ⟨(ex_a1 j hj w hw h).1, (ex_a1 j hj w hw h).2.1, (ex_a1 j hj w hw h).2.2, (ex_a2 j hj w hw h).1, (ex_a2 j hj w hw h).2, fun y hy e => ex_a3 j hj w hw y hy e⟩
theorem lf_1 : ∀ j : Nat, j < 4 → nI (2 ^ j) = lfO (15 ^^^ 2 ^ j) ∧ 15 ^^^ 2 ^ j < 16 := by decide +kernel
theorem w_exa {l : Nat} (hl : l < 6) (A B : Int64) {un : Int64} (hu : un = ((((A.toUInt64 >>> ((nI (2 ^ l)).toInt64.toUInt64 &&& Int64.toUInt64 63)).toInt64) ^^^ B) &&& (tab_ONES l ^^^ (-1)))) {b : Nat} (hb : b < 64) : WB (A ^^^ (un <<< ((nI (2 ^ l)).toInt64 &&& 63))) b = (if b.testBit l then WB B (setb b l false) else WB A b) ∧ WB (B ^^^ un) b = if b.testBit l then WB B b else WB A (setb b l true) := by
  have un' : ∀ c : Nat, c < 64 → WB un c = ((WB A (2 ^ l + c) ^^ WB B c) && !c.testBit l) := fun c hc => by
    rw [hu, w_and, w_xor, w_ushr (pw64 l hl), w_not _ hc, ones_tb l hl c hc]
  rw [w_xor, w_xor, w_shl (pw64 l hl) _ hb, un' b hb]
  cases hc : b.testBit l
  · rw [if_neg (by decide), if_neg (by decide), ln_up l hl b hb hc]
    refine ⟨?_, ?_⟩
    · by_cases d : 2 ^ l ≤ b
      · rw [un' _ (Nat.lt_of_le_of_lt (Nat.sub_le _ _) hb), ln_lo l hl b hb hc d]; simp
      · rw [decide_eq_false d]; simp
    · cases WB B b <;> cases WB A (setb b l true) <;> rfl
  · obtain ⟨h1, h2⟩ := ln_hi l hl b hb hc
    have h3 := setb_6 false hb hl
    have h4 : (setb b l false).testBit l = false := by rw [tb_setb, if_pos rfl]
    rw [if_pos rfl, if_pos rfl, decide_eq_true h1, h2, un' _ h3, h4, ln_up l hl _ h3 h4, setb_setb, setb_self hc]
    refine ⟨?_, ?_⟩
    · cases WB A b <;> cases WB B (setb b l false) <;> rfl
    · simp
/-- whole words -/
theorem ex_x1 : ∀ i : Nat, i < 4 → ∀ j : Nat, j < i → ∀ w : Nat, w < 16 → w &&& (15 ^^^ (2 ^ j ||| 2 ^ i)) = w → w ||| 2 ^ j < 16 ∧ w ||| 2 ^ i < 16 := by decide +kernel
theorem ex_x0 : ∀ i : Nat, i < 4 → ∀ j : Nat, j < i → ∀ w : Nat, w < 16 → w &&& (15 ^^^ (2 ^ j ||| 2 ^ i)) = w → ¬ (w ||| 2 ^ j = w ||| 2 ^ i) := by decide +kernel
theorem ex_x2 : ∀ i : Nat, i < 4 → ∀ j : Nat, j < i → ∀ w : Nat, w < 16 → w &&& (15 ^^^ (2 ^ j ||| 2 ^ i)) = w → ((w ||| 2 ^ j) &&& (15 ^^^ (2 ^ j ||| 2 ^ i))) = w ∧ ((w ||| 2 ^ i) &&& (15 ^^^ (2 ^ j ||| 2 ^ i))) = w := by decide +kernel
theorem ex_x3 : ∀ i : Nat, i < 4 → ∀ j : Nat, j < i → ∀ w : Nat, w < 16 → w &&& (15 ^^^ (2 ^ j ||| 2 ^ i)) = w → swb j i (w ||| 2 ^ j) = w ||| 2 ^ i ∧ swb j i (w ||| 2 ^ i) = w ||| 2 ^ j := by decide +kernel
theorem ex_x4 : ∀ i : Nat, i < 4 → ∀ j : Nat, j < i → ∀ y : Nat, y < 16 → swb j i y = y ∨ y = (y &&& (15 ^^^ (2 ^ j ||| 2 ^ i))) ||| 2 ^ j ∨ y = (y &&& (15 ^^^ (2 ^ j ||| 2 ^ i))) ||| 2 ^ i := by decide +kernel
theorem ex_x {i j w : Nat} (hi : i < 4) (hj : j < i) (hw : w < 16) (h : w &&& (15 ^^^ (2 ^ j ||| 2 ^ i)) = w) : w ||| 2 ^ j < 16 ∧ w ||| 2 ^ i < 16 ∧ w ||| 2 ^ j ≠ w ||| 2 ^ i ∧ ((w ||| 2 ^ j) &&& (15 ^^^ (2 ^ j ||| 2 ^ i))) = w ∧ ((w ||| 2 ^ i) &&& (15 ^^^ (2 ^ j ||| 2 ^ i))) = w ∧ swb j i (w ||| 2 ^ j) = w ||| 2 ^ i ∧ swb j i (w ||| 2 ^ i) = w ||| 2 ^ j ∧ ∀ y : Nat, y < 16 → (y &&& (15 ^^^ (2 ^ j ||| 2 ^ i))) = w → y ≠ w ||| 2 ^ j → y ≠ w ||| 2 ^ i → swb j i y = y := by
  have a := ex_x1 i hi j hj w hw h
  have b := ex_x2 i hi j hj w hw h
  have c := ex_x3 i hi j hj w hw h
  refine ⟨a.1, a.2, ex_x0 i hi j hj w hw h, b.1, b.2, c.1, c.2, fun y hy e n1 n2 => ?_⟩
  rcases ex_x4 i hi j hj y hy with q | q | q
  · exact q
  · rw [e] at q; exact absurd q n1
  · rw [e] at q; exact absurd q n2
theorem lf_2 : ∀ i : Nat, i < 4 → ∀ j : Nat, j < i → nI (2 ^ j) ||| nI (2 ^ i) = lfO (15 ^^^ (2 ^ j ||| 2 ^ i)) ∧ 15 ^^^ (2 ^ j ||| 2 ^ i) < 16 := by decide +kernel
section ARR
variable {L : Nat → Nat → Int64} {E : (Nat → Prop) × (Nat → Option PE)} {ad S : Nat → Nat} {I : Nat → Nat → Nat} {ln : Nat → Nat} {z : Nat × Nat}
theorem w_st {r : Nat → Int64} {u : PS} (h : VC 69 ad S I ln (va_up L 41 r) E z u) {w : Nat} (hw : w < 16) (x : Int64) : ∃ u' : PS, x_ls u (ad 41) (nI w) x u' ∧ VC 69 ad S I ln (va_up L 41 (vp_updL r w x)) E z u' := by
  obtain ⟨u', s1, h1⟩ := h.lsx (by decide) 41 (by decide) hw x
  rw [up_eq, bx_uu] at h1
  exact ⟨u', s1, h1⟩
theorem w_ld {r : Nat → Int64} {u : PS} (h : VC 69 ad S I ln (va_up L 41 r) E z u) {w : Nat} (hw : w < 16) : x_la u (ad 41) (nI w) (r w) := by
  have := h.la (by decide) 41 (by decide) hw
  rw [up_eq] at this
  exact this
theorem q_exw_L {l h' : Nat} (hl : l < h') (hh : h' < 6) {r : Nat → Int64} {K : PS → Prop} (hK : ∀ (u' : PS) (r' : Nat → Int64), VC 69 ad S I ln (va_up L 41 r') E z u' → (∀ v : Nat, v < 1024 → TB r' v = TB r (swb l h' v)) → K u') : ∀ (d w : Nat) (u : PS) (r' : Nat → Int64), 16 < w + d → w ≤ 16 → VC 69 ad S I ln (va_up L 41 r') E z u → XV l h' 15 w r r' → p_G_exchangeWithinWords_L28 (ad 3) (tab_ONES l &&& (tab_ONES h' ^^^ (-1))) (nI (2 ^ h' - 2 ^ l)) K d (nI w) u := by
  intro d
  induction d with
  | zero => intro w u r' h1 h2; exact absurd h1 (by omega)
  | succ d ih =>
    intro w u r' h1 h2 h hx
    rw [p_G_exchangeWithinWords_L28]
    refine pk_le 16 w (fun cc => ?_) (fun cc => ?_)
    · obtain rfl : w = 16 := by omega
      exact hK u r' h (fun v hv => hx.done hv)
    · have n15 : ∀ y : Nat, y < 16 → y &&& 15 = y := by decide
      have nx : nxw 15 w = w + 1 := (show ∀ y : Nat, y < 16 → nxw 15 y = y + 1 by decide) w cc
      refine ⟨_, h.fG (by decide) rfl, _, w_ld h cc, nm_e ⟨_, h.fG (by decide) rfl, ?_⟩⟩
      obtain ⟨u1, s1, k1⟩ := w_st h cc ((r' w ^^^ ((((r' w).toUInt64 >>> ((nI (2 ^ h' - 2 ^ l)).toInt64.toUInt64 &&& Int64.toUInt64 63)).toInt64) ^^^ r' w) &&& (tab_ONES l &&& (tab_ONES h' ^^^ (-1)))) ^^^ (((((r' w).toUInt64 >>> ((nI (2 ^ h' - 2 ^ l)).toInt64.toUInt64 &&& Int64.toUInt64 63)).toInt64) ^^^ r' w) &&& (tab_ONES l &&& (tab_ONES h' ^^^ (-1)))) <<< ((nI (2 ^ h' - 2 ^ l)).toInt64 &&& 63))
      refine ⟨u1, s1, nm_e ?_⟩
      rw [show (1 : Int32) = nI 1 from rfl, nI_add]
      refine ih (w + 1) u1 _ (by omega) (by omega) k1 ?_
      rw [← nx]
      refine hx.step (by decide) cc (n15 w cc) (fun y b hy hb hyk => ?_) (fun y hy hyk => ?_)
      · rw [n15 y hy] at hyk
        subst hyk
        have sl : swb l h' b < 64 := setb_6 _ (setb_6 _ hb (by omega)) hh
        rw [pk_uLs, w_exw hl hh (r' y) rfl hb, hx.same hy (n15 y hy), swb_lo (by omega) hh hb, TB_wb _ _ sl]
      · rw [n15 y hy] at hyk
        exact pk_uLn hyk
theorem q_exa_L {l j : Nat} (hl : l < 6) (hj : j < 4) {r : Nat → Int64} {K : PS → Prop} (hK : ∀ (u' : PS) (r' : Nat → Int64), VC 69 ad S I ln (va_up L 41 r') E z u' → (∀ v : Nat, v < 1024 → TB r' v = TB r (swb l (6 + j) v)) → K u') : ∀ (d w : Nat) (u : PS) (r' : Nat → Int64), 16 < w + d → w ≤ 16 → (w < 16 → w &&& (15 ^^^ 2 ^ j) = w) → VC 69 ad S I ln (va_up L 41 r') E z u → XV l (6 + j) (15 ^^^ 2 ^ j) w r r' → p_G_exchangeAcrossWords_L18 (ad 3) (nI (2 ^ j)) (tab_ONES l ^^^ (-1)) (nI (2 ^ l)) K d (nI w) u := by
  intro d
  induction d with
  | zero => intro w u r' h1 h2; exact absurd h1 (by omega)
  | succ d ih =>
    intro w u r' h1 h2 hs' h hx
    rw [p_G_exchangeAcrossWords_L18]
    refine pk_le 16 w (fun cc => ?_) (fun cc => ?_)
    · obtain rfl : w = 16 := by omega
      exact hK u r' h (fun v hv => hx.done hv)
    · have hs := hs' cc
      obtain ⟨f1, f2⟩ := lf_1 j hj
      obtain ⟨a1, a2, a3, a4, a5, a6⟩ := ex_a hj cc hs
      obtain ⟨n1, n2, n3⟩ := nxw_s _ f2 w cc hs
      have e1 : r' w = r w := hx.same cc hs
      have e2 : r' (w ||| 2 ^ j) = r (w ||| 2 ^ j) := hx.same a3 a5
      rw [nx_or]
      refine ⟨_, h.fG (by decide) rfl, _, w_ld h cc, _, h.fG (by decide) rfl, _, w_ld h a3, nm_e ⟨_, h.fG (by decide) rfl, _, w_ld h cc, ?_⟩⟩
      obtain ⟨un, hu⟩ : ∃ un : Int64, un = (((((r' w).toUInt64 >>> ((nI (2 ^ l)).toInt64.toUInt64 &&& Int64.toUInt64 63)).toInt64) ^^^ r' (w ||| 2 ^ j)) &&& (tab_ONES l ^^^ (-1))) := ⟨_, rfl⟩
      rw [← hu]
      obtain ⟨u1, s1, k1⟩ := w_st h cc (r' w ^^^ (un <<< ((nI (2 ^ l)).toInt64 &&& 63)))
      have l1 := w_ld k1 a3
      rw [pk_uLn a4] at l1
      obtain ⟨u2, s2, k2⟩ := w_st k1 a3 (r' (w ||| 2 ^ j) ^^^ un)
      refine ⟨u1, s1, _, k1.fG (by decide) rfl, _, l1, u2, s2, nm_e ?_⟩
      rw [← nx_or, f1, nxw_e _ f2 w cc, ← f1]
      refine ih _ u2 _ (by omega) n2 n3 k2 (hx.step f2 cc hs (fun y b hy hb hyk => ?_) (fun y hy hyk => ?_))
      · rw [swb_ac hl (by omega) hb, show 6 + j - 6 = j by omega]
        have ww := w_exa hl (r' w) (r' (w ||| 2 ^ j)) hu hb
        rcases a6 y hy hyk with q | q
        · subst q
          rw [pk_uLn (Ne.symm a4), pk_uLs, ww.1, TB_wb _ _ (setb_6 _ hb hl), a1, e1, e2]
          cases c : b.testBit l
          · rw [if_neg (by decide), setb_self a1, setb_self c]
          · rw [if_pos rfl, ← a2]
        · subst q
          have t1 : (w ||| 2 ^ j).testBit j = true := by rw [a2, tb_setb, if_pos rfl]
          rw [pk_uLs, ww.2, TB_wb _ _ (setb_6 _ hb hl), t1, e1, e2]
          cases c : b.testBit l
          · rw [if_neg (by decide), a2, setb_setb, setb_self a1]
          · rw [if_pos rfl, setb_self c, setb_self t1]
      · rw [pk_uLn (fun q => hyk (by rw [q]; exact a5)), pk_uLn (fun q => hyk (by rw [q]; exact hs))]
theorem q_exx_L {j i : Nat} (hj : j < i) (hi : i < 4) {r : Nat → Int64} {K : PS → Prop} (hK : ∀ (u' : PS) (r' : Nat → Int64), VC 69 ad S I ln (va_up L 41 r') E z u' → (∀ v : Nat, v < 1024 → TB r' v = TB r (swb (6 + j) (6 + i) v)) → K u') : ∀ (d w : Nat) (u : PS) (r' : Nat → Int64), 16 < w + d → w ≤ 16 → (w < 16 → w &&& (15 ^^^ (2 ^ j ||| 2 ^ i)) = w) → VC 69 ad S I ln (va_up L 41 r') E z u → XV (6 + j) (6 + i) (15 ^^^ (2 ^ j ||| 2 ^ i)) w r r' → p_G_exchangeWords_L7 (ad 3) (nI (2 ^ j)) (nI (2 ^ i)) (lfO (15 ^^^ (2 ^ j ||| 2 ^ i))) K d (nI w) u := by
  intro d
  induction d with
  | zero => intro w u r' h1 h2; exact absurd h1 (by omega)
  | succ d ih =>
    intro w u r' h1 h2 hs' h hx
    rw [p_G_exchangeWords_L7]
    refine pk_le 16 w (fun cc => ?_) (fun cc => ?_)
    · obtain rfl : w = 16 := by omega
      exact hK u r' h (fun v hv => hx.done hv)
    · have hs := hs' cc
      obtain ⟨_, f2⟩ := lf_2 i hi j hj
      obtain ⟨a1, a2, a3, a4, a5, a6, a7, a8⟩ := ex_x hi hj cc hs
      obtain ⟨n1, n2, n3⟩ := nxw_s _ f2 w cc hs
      rw [nx_or, nx_or]
      obtain ⟨u1, s1, k1⟩ := w_st h a1 (r' (w ||| 2 ^ i))
      obtain ⟨u2, s2, k2⟩ := w_st k1 a2 (r' (w ||| 2 ^ j))
      refine ⟨_, h.fG (by decide) rfl, _, w_ld h a1, _, h.fG (by decide) rfl, _, h.fG (by decide) rfl, _, w_ld h a2, u1, s1, _, k1.fG (by decide) rfl, u2, s2, nm_e ?_⟩
      rw [nxw_e _ f2 w cc]
      refine ih _ u2 _ (by omega) n2 n3 k2 (hx.step f2 cc hs (fun y b hy hb hyk => ?_) (fun y hy hyk => ?_))
      · rw [swb_hi (by omega) (by omega) hb, show 6 + j - 6 = j by omega, show 6 + i - 6 = i by omega, TB_wb _ _ hb]
        by_cases c1 : y = w ||| 2 ^ i
        · subst c1; rw [pk_uLs, hx.same a1 a4, a7]
        · rw [pk_uLn c1]
          by_cases c2 : y = w ||| 2 ^ j
          · subst c2; rw [pk_uLs, hx.same a2 a5, a6]
          · rw [pk_uLn c2, hx.same hy hyk, a8 y hy hyk c2 c1]
      · rw [pk_uLn (fun q => hyk (by rw [q]; exact a5)), pk_uLn (fun q => hyk (by rw [q]; exact a4))]
theorem q_G_exchange {r : Nat → Int64} {u : PS} (h : VC 69 ad S I ln (va_up L 41 r) E z u) {l h' : Nat} (hl : l < h') (hh : h' < 10) {K : PS → Prop} (hK : ∀ (u' : PS) (r' : Nat → Int64), VC 69 ad S I ln (va_up L 41 r') E z u' → (∀ v : Nat, v < 1024 → TB r' v = TB r (swb l h' v)) → K u') : p_G_exchange (ad 3) (nI l) (nI h') u K := by
  unfold p_G_exchange
  refine pk_le 6 h' (fun c1 => pk_le 6 l (fun c2 => ⟨h.obG (by decide), ?_⟩) (fun c2 => ⟨h.obG (by decide), ?_⟩)) (fun c1 => ⟨h.obG (by decide), ?_⟩)
  · obtain ⟨i, rfl⟩ : ∃ i : Nat, h' = 6 + i := ⟨h' - 6, by omega⟩
    obtain ⟨j, rfl⟩ : ∃ j : Nat, l = 6 + j := ⟨l - 6, by omega⟩
    rw [show (6 : Int32) = nI 6 from rfl, pk_sub (by omega), pk_sub (by omega), show 6 + i - 6 = i by omega, show 6 + j - 6 = j by omega, nI_pw (by omega), nI_pw (by omega)]
    unfold p_G_exchangeWords
    refine nm_e ⟨17, ?_⟩
    rw [(lf_2 i (by omega) j (by omega)).1]
    exact q_exx_L (by omega) (by omega) hK 17 0 u r (by omega) (by omega) (fun _ => Nat.zero_and _) h (XV.start _ _ _ r)
  · obtain ⟨i, rfl⟩ : ∃ i : Nat, h' = 6 + i := ⟨h' - 6, by omega⟩
    rw [show (6 : Int32) = nI 6 from rfl, pk_sub (by omega), show 6 + i - 6 = i by omega, nI_pw (by omega)]
    unfold p_G_exchangeAcrossWords
    refine ⟨vp_in_nI c2 (by decide), nm_e (nm_e ⟨17, ?_⟩)⟩
    rw [nI_clamp (by omega), nI_pw (by omega)]
    exact q_exa_L c2 (by omega) hK 17 0 u r (by omega) (by omega) (fun _ => Nat.zero_and _) h (XV.start _ _ _ r)
  · unfold p_G_exchangeWithinWords
    refine ⟨vp_in_nI (show l < 6 by omega) (by decide), vp_in_nI c1 (by decide), nm_e (nm_e ⟨17, ?_⟩)⟩
    rw [nI_clamp (by omega), nI_clamp (by omega), nI_pw (by omega), nI_pw (by omega), pk_sub (ex_w4 h' c1 l hl).1]
    exact q_exw_L hl c1 hK 17 0 u r (by omega) (by omega) h (XV.start _ _ _ r)
end ARR
