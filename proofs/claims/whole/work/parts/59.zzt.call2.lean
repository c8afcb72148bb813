/-! the house's calls as the law makes them: those that ask, and those that change the order -/
section CA2
variable {hd w m : Nat} {P : Nat → Prop} {R0 : Nat × Nat} {L : Nat → Nat → Int64} {E : (Nat → Prop) × (Nat → Option PE)} {R n : Nat × Nat} {e t : Nat} {o rt : Nat → Nat} {ad S : Nat → Nat} {I : Nat → Nat → Nat} {ln : Nat → Nat} {z : Nat × Nat} {u u0 : PS} {g : Nat → Nat} {D : Nat → Fn} {F Fd : Nat → Nat → Bool}
/-- what a call that answers leaves -/
def AN (hd : Nat) (P : Nat → Prop) (w : Nat) (R0 : Nat × Nat) (m : Nat) (F : Nat → Nat → Bool) (o : Nat → Nat) (u0 : PS) (c x : Int32) (u : PS) : Prop := CK hd P w R0 m F o u0 u ∧ (c = 0 → OV w x.toInt64 u)
theorem AN.no (h : CK hd P w R0 m F o u0 u) {c x : Int32} (hc : c ≠ 0) : AN hd P w R0 m F o u0 c x u := ⟨h, fun q => absurd q hc⟩
theorem AN.out (h : CK hd P w R0 m F o u0 u) {x : Int32} {K : PS → Prop} (hK : ∀ u' : PS, AN hd P w R0 m F o u0 0 x u' → K u') : ∃ u' : PS, x_ls u w (0 : Int32) x.toInt64 u' ∧ K u' := h.out x.toInt64 (fun u' a b => hK u' ⟨a, fun _ => b⟩)
theorem q_L_order (h : CS hd P w R0 m F o u) {x : Int32} {K : Int32 → PS → Prop} (hK : ∀ u' : PS, AN hd P w R0 (m + 1) F o u (sp_order x o).1 (sp_order x o).2 u' → K (sp_order x o).1 u') : p_L_order hd x w u K := by
  have th := CK.th h
  have rf := CK.rf h
  obtain ⟨⟨hw, oa⟩, n, R, L, Fd, rt, ad, S, I, ln, z, e, t, g, D, rfl, hs, ch, b⟩ := h
  have hv := hs.1.1
  unfold p_L_order p_H_order p_H_order_J10
  refine ⟨hv.obH (by decide), ?_⟩
  cases ox : okI x
  · have e : sp_order x o = (1, 0) := by unfold sp_order; rw [if_neg (by rw [ox]; decide)]
    have k := hK; rw [e] at k
    have k1 := k _ (AN.no th (show (1 : Int32) ≠ 0 by decide))
    rcases ok_lt (N := 9) ox (by decide) with q | ⟨q1, q2⟩
    · exact br_t q ⟨rfl, k1⟩
    · exact br_f q1 (br_f q2 ⟨rfl, k1⟩)
  · obtain ⟨q1, q2⟩ := ok_ge (N := 9) ox (by decide)
    obtain ⟨i, hi, rfl⟩ := okI_nI ox
    have e : sp_order (nI i) o = (0, nI (o i)) := by unfold sp_order; rw [if_pos ox, nI_clamp (by omega)]
    have k := hK; rw [e] at k
    have r37 := hv.ia 37 (by decide) (ii (by decide)) (j := i) (by have := hs.2.2.2.1.2.2.2.2.2.2.2.2.1; omega) (by have := hs.2.2.2.1.2.2.2.2.2.2.2.2.1; omega)
    rw [hs.2.2.1.1 i hi] at r37
    refine br_f q1 (br_t q2 ⟨_, hv.fH (by decide) rfl, hv.obD (by decide), ?_⟩)
    unfold p_D_inputAt
    exact ⟨_, hv.fD (by decide) rfl, _, r37, AN.out rf k⟩
theorem q_L_count (h : CS hd P w R0 m F o u) {x : Int32} {K : Int32 → PS → Prop} (hK : ∀ u' : PS, AN hd P w R0 (m + 1) F o u (sp_count x F).1 (sp_count x F).2 u' → K (sp_count x F).1 u') : p_L_count hd x w u K := by
  have th := CK.th h
  have rf := CK.rf h
  obtain ⟨⟨hw, oa⟩, n, R, L, Fd, rt, ad, S, I, ln, z, e, t, g, D, rfl, hs, ch, b⟩ := h
  have hv := hs.1.1
  have l6 := hs.2.2.2.1.1
  unfold p_L_count p_H_count
  refine ⟨hv.obH (by decide), q_needPlace (fun ox => ?_) (fun ox => ⟨rfl, ?_⟩)⟩
  · obtain ⟨p, hp, rfl⟩ := okP_nI ox
    have e : sp_count (nI p) F = (0, nI (cntT (F p) 1024)) := by unfold sp_count; rw [if_pos ox, nI_clamp (by omega)]
    have k := hK; rw [e] at k
    exact ⟨_, hv.fH (by decide) rfl, hv.obF (by decide), q_F_ones hv l6 hs.2.1 hp (AN.out rf k)⟩
  · have e : sp_count x F = (1, 0) := by unfold sp_count; rw [if_neg (by rw [ox]; decide)]
    have k := hK; rw [e] at k; exact k _ (AN.no th (show (1 : Int32) ≠ 0 by decide))
theorem q_L_least (h : CS hd P w R0 m F o u) {x : Int32} {K : Int32 → PS → Prop} (hK : ∀ u' : PS, AN hd P w R0 (m + 1) F o u (sp_least x F).1 (sp_least x F).2 u' → K (sp_least x F).1 u') : p_L_least hd x w u K := by
  have th := CK.th h
  have rf := CK.rf h
  obtain ⟨⟨hw, oa⟩, n, R, L, Fd, rt, ad, S, I, ln, z, e, t, g, D, rfl, hs, ch, b⟩ := h
  have hv := hs.1.1
  have l6 := hs.2.2.2.1.1
  unfold p_L_least p_H_least
  refine ⟨hv.obH (by decide), q_needPlace (fun ox => ?_) (fun ox => ⟨rfl, ?_⟩)⟩
  · obtain ⟨p, hp, rfl⟩ := okP_nI ox
    have e : sp_least (nI p) F = (0, lstU (F p) 1024 0) := by unfold sp_least; rw [if_pos ox, nI_clamp (by omega)]
    have k := hK; rw [e] at k
    exact ⟨_, hv.fH (by decide) rfl, hv.obF (by decide), q_F_firstOne hv l6 hs.2.1 hp (AN.out rf k)⟩
  · have e : sp_least x F = (1, 0) := by unfold sp_least; rw [if_neg (by rw [ox]; decide)]
    have k := hK; rw [e] at k; exact k _ (AN.no th (show (1 : Int32) ≠ 0 by decide))
theorem bI_64 (b : Bool) : (bI b).toInt64 = if b then 1 else 0 := by cases b <;> rfl
theorem q_L_value (h : CS hd P w R0 m F o u) {x y : Int32} {K : Int32 → PS → Prop} (hK : ∀ u' : PS, AN hd P w R0 (m + 1) F o u (sp_value x y F).1 (sp_value x y F).2 u' → K (sp_value x y F).1 u') : p_L_value hd x y w u K := by
  have th := CK.th h
  have rf := CK.rf h
  obtain ⟨⟨hw, oa⟩, n, R, L, Fd, rt, ad, S, I, ln, z, e, t, g, D, rfl, hs, ch, b⟩ := h
  have hv := hs.1.1
  have l6 := hs.2.2.2.1.1
  unfold p_L_value p_H_value
  refine ⟨hv.obH (by decide), q_needPlace (fun ox => q_needBelow (N := 1023) (by decide) (fun oy => ?_) (fun oy => Or.inr ⟨rfl, ?_⟩)) (fun ox => Or.inl ⟨rfl, ?_⟩)⟩
  · obtain ⟨p, hp, rfl⟩ := okP_nI ox
    obtain ⟨v, hv', rfl⟩ := okW_nI oy
    have e : sp_value (nI p) (nI v) F = (0, bI (F p v)) := by unfold sp_value; rw [if_pos ox, if_pos (show okW (nI v) = true from oy), nI_clamp (by omega), nI_clamp (by omega)]
    have k := hK; rw [e] at k
    refine ⟨_, hv.fH (by decide) rfl, hv.obF (by decide), q_F_bit hv l6 hp (hs.2.1.1 p hp) hv' ?_⟩
    unfold p_L_value_J16
    cases c : F p v
    · rw [c] at k
      exact brn_f (by decide) ⟨Or.inl rfl, br_t rfl (AN.out rf k)⟩
    · rw [c] at k
      exact brn_t rfl ⟨Or.inr rfl, br_f (by decide) (AN.out rf k)⟩
  · have e : sp_value x y F = (2, 0) := by unfold sp_value; rw [if_pos ox, if_neg (show ¬ okW y = true from fun q => by rw [show okW y = false from oy] at q; exact absurd q (by decide))]
    have k := hK; rw [e] at k; exact k _ (AN.no th (show (2 : Int32) ≠ 0 by decide))
  · have e : sp_value x y F = (1, 0) := by unfold sp_value; rw [if_neg (by rw [ox]; decide)]
    have k := hK; rw [e] at k; exact k _ (AN.no th (show (1 : Int32) ≠ 0 by decide))
theorem q_L_alike (h : CS hd P w R0 m F o u) {x y : Int32} {K : Int32 → PS → Prop} (hK : ∀ u' : PS, AN hd P w R0 (m + 1) F o u (sp_alike x y F).1 (sp_alike x y F).2 u' → K (sp_alike x y F).1 u') : p_L_alike hd x y w u K := by
  have th := CK.th h
  have rf := CK.rf h
  obtain ⟨⟨hw, oa⟩, n, R, L, Fd, rt, ad, S, I, ln, z, e, t, g, D, rfl, hs, ch, b⟩ := h
  have hv := hs.1.1
  have l6 := hs.2.2.2.1.1
  unfold p_L_alike p_H_alike
  refine ⟨hv.obH (by decide), q_needPlaces (fun ox => ?_) (fun ox => ⟨rfl, ?_⟩)⟩
  · obtain ⟨o1, o2, o3⟩ := and22 ox
    obtain ⟨p, hp, rfl⟩ := okP_nI o1
    obtain ⟨q, hq, rfl⟩ := okP_nI o2
    have e : sp_alike (nI p) (nI q) F = (0, bI (sameT (F p) (F q) 1024)) := by unfold sp_alike; rw [if_pos o3, nI_clamp (by omega), nI_clamp (by omega)]
    have k := hK; rw [e] at k
    refine ⟨_, hv.fH (by decide) rfl, hv.obF (by decide), q_F_areSame hv l6 hs.2.1 hp hq ⟨bI_z _, ?_⟩⟩
    unfold p_L_alike_J16
    cases c : sameT (F p) (F q) 1024
    · rw [c] at k
      exact br_t rfl (AN.out rf k)
    · rw [c] at k
      exact br_f (by decide) (AN.out rf k)
  · have e : sp_alike x y F = (1, 0) := by unfold sp_alike; rw [if_neg (and20 ox)]
    have k := hK; rw [e] at k; exact k _ (AN.no th (show (1 : Int32) ≠ 0 by decide))
theorem q_L_support (h : CS hd P w R0 m F o u) {x : Int32} {K : Int32 → PS → Prop} (hK : ∀ u' : PS, AN hd P w R0 (m + 1) F o u (sp_support x F).1 (sp_support x F).2 u' → K (sp_support x F).1 u') : p_L_support hd x w u K := by
  have th := CK.th h
  obtain ⟨⟨hw, oa⟩, n, R, L, Fd, rt, ad, S, I, ln, z, e, t, g, D, rfl, hs, ch, b⟩ := h
  have hv := hs.1.1
  have l6 := hs.2.2.2.1.1
  unfold p_L_support p_H_support
  refine ⟨hv.obH (by decide), q_needPlace (fun ox => ?_) (fun ox => ⟨rfl, ?_⟩)⟩
  · obtain ⟨p, hp, rfl⟩ := okP_nI ox
    have es : sp_support (nI p) F = (0, nI (supN (F p) 10)) := by unfold sp_support; rw [if_pos ox, nI_clamp (by omega)]
    have k := hK; rw [es] at k
    refine ⟨_, hv.fH (by decide) rfl, hv.obF (by decide), q_F_usedInputs hv l6 hs.2.1 hp (fun u1 S1 I1 v1 v2 v3 v4 => ?_)⟩
    rw [v2.sup hp v4]
    have iI : ∀ i : Nat, i ≠ 6 → I1 i = I i := v3.2.1
    have sS : ∀ s : Nat, 2 ≤ s → S1 s = S s := v3.2.2.1
    obtain ⟨ns, fk, ⟨h37, h38⟩, lns, ho, ⟨h3, hmok⟩, ts, ⟨m1, m2⟩, ⟨k1, k2⟩⟩ := hs
    have hs1 : HS n L (P, u.1) R F Fd o rt ad S1 I1 ln z u1 e t g D := ⟨ns.put v1 (fun s a b => sS s (by omega)) (fun i a b => iI i (by omega)), v2, ⟨fun j hj => by rw [iI 37 (by decide)]; exact h37 j hj, fun q hq => by rw [iI 38 (by decide)]; exact h38 q hq⟩, lns, ho, ⟨by rw [sS 3 (by decide)]; exact h3, fun q => (hmok (by rw [← sS 3 (by decide)]; exact q)).same (iI 39 (by decide))⟩, ts, ⟨by rw [iI 25 (by decide), sS 14 (by decide)]; exact m1, by rw [sS 14 (by decide)]; exact m2⟩, ⟨by rw [iI 13 (by decide), sS 11 (by decide)]; exact k1, by rw [sS 11 (by decide)]; exact k2⟩⟩
    have ch1 : CHG F Fd S1 := ⟨by rw [sS 2 (by decide)]; exact ch.1, fun q hq hb => by
      rw [sS 2 (by decide)] at hb
      have := ch.2 q hq hb
      by_cases c : q = p
      · subst c; exact ⟨this.1, v4⟩
      · exact ⟨this.1, by rw [v3.2.2.2 q c]; exact this.2⟩⟩
    exact AN.out (CK.of hs1 ch1 rfl hw oa b.s) k
  · have e : sp_support x F = (1, 0) := by unfold sp_support; rw [if_neg (by rw [ox]; decide)]
    have k := hK; rw [e] at k; exact k _ (AN.no th (show (1 : Int32) ≠ 0 by decide))
theorem all24 : ∀ p : Nat, p < 24 → (16777215).testBit p = true := by decide
/-- one place's diagram depends on its function alone -/
theorem wh_one {p : Nat} (h : fnOf (Fd p) = fnOf (F p)) : wh (PR p 1) Fd o = wh (PR p 1) F o := by
  unfold wh
  refine sumTo_congr 10 (fun j _ => ?_)
  unfold qn
  congr 1
  funext f
  unfold QP PR
  refine propext ⟨?_, ?_⟩
  · rintro ⟨⟨q, ⟨i, i1, i2⟩, a, ea⟩, hd⟩
    have : q = p := by omega
    subst this
    exact ⟨⟨q, ⟨i, i1, i2⟩, a, by rw [ea, h]⟩, hd⟩
  · rintro ⟨⟨q, ⟨i, i1, i2⟩, a, ea⟩, hd⟩
    have : q = p := by omega
    subst this
    exact ⟨⟨q, ⟨i, i1, i2⟩, a, by rw [ea, h]⟩, hd⟩
theorem q_L_size (h : CS hd P w R0 m F o u) (hm : m < 100000) {x : Int32} {K : Int32 → PS → Prop} (hK : ∀ u' : PS, AN hd P w R0 (m + 1) F o u (sp_size x (fun P => wh P F o)).1 (sp_size x (fun P => wh P F o)).2 u' → K (sp_size x (fun P => wh P F o)).1 u') : p_L_size hd x w u K := by
  have th := CK.th h
  obtain ⟨⟨hw, oa⟩, n, R, L, Fd, rt, ad, S, I, ln, z, e, t, g, D, rfl, hs, ch, b⟩ := h
  have hv := hs.1.1
  have ho := hs.2.2.2.2.1
  unfold p_L_size p_H_size
  refine ⟨hv.obH (by decide), ?_⟩
  by_cases c : x = -1
  · subst c
    have e : sp_size (-1) (fun P => wh P F o) = (0, nI (wh (PR 0 24) F o)) := by unfold sp_size; rw [if_pos rfl]
    have k := hK; rw [e] at k
    refine brn_t rfl ?_
    rw [show (16777215 : Int32) = nI 16777215 from rfl]
    refine ⟨_, hv.fH (by decide) rfl, hv.obD (by decide), q_D_draw hs ch (pm := 16777215) (by decide) (fun u1 L1 Fd1 e1 rt1 ad1 S1 I1 ln1 z1 g1 D1 v1 v2 v3 v4 => ?_)⟩
    have os := v1.os v2 (fun p hp => v3 p hp (all24 p hp))
    rw [← v4 0 (by omega)]
    refine ⟨_, v1.1.1.fH (by decide) rfl, v1.1.1.obD (by decide), ?_⟩
    unfold p_D_wholeSize p_N_wholeSize
    refine ⟨_, v1.1.1.fD (by decide) rfl, v1.1.1.obN (by decide), _, v1.1.1.fN (by decide) rfl, ?_⟩
    rw [os.1.size ho]
    exact AN.out (CK.of v1 v2 (v4 0 (by omega)) hw oa b.s) k
  · refine brn_f c (q_needPlace (fun ox => ?_) (fun ox => ⟨rfl, ?_⟩))
    · obtain ⟨p, hp, rfl⟩ := okP_nI ox
      have e : sp_size (nI p) (fun P => wh P F o) = (0, nI (wh (PR p 1) F o)) := by unfold sp_size; rw [if_neg c, if_pos ox, nI_clamp (by omega)]
      have k := hK; rw [e] at k
      rw [nI_pw (by omega)]
      refine ⟨_, hv.fH (by decide) rfl, hv.obD (by decide), q_D_draw hs ch (pm := 2 ^ p) (Nat.pow_lt_pow_right (by decide) hp) (fun u1 L1 Fd1 e1 rt1 ad1 S1 I1 ln1 z1 g1 D1 v1 v2 v3 v4 => ?_)⟩
      have dr := v2.2 p hp (v3 p hp Nat.testBit_two_pow_self)
      rw [← v4 0 (by omega)]
      refine ⟨_, v1.1.1.fH (by decide) rfl, v1.1.1.obD (by decide), q_D_sizeOf v1 (by have := b.2.1; omega) hp (fun u2 S2 I2 y1 y2 => ?_)⟩
      rw [wh_one dr.1]
      exact AN.out (CK.of y1 ⟨by rw [y2 2 (by decide)]; exact v2.1, fun q hq hb => by rw [y2 0 (by decide)]; rw [y2 2 (by decide)] at hb; exact v2.2 q hq hb⟩ (v4 0 (by omega)) hw oa ⟨by have := b.1; dsimp only; omega, by have := b.2.1; dsimp only; omega, by have := b.2.2.1; omega, by have := b.2.2.2; omega⟩) k
    · have e : sp_size x (fun P => wh P F o) = (1, 0) := by unfold sp_size; rw [if_neg c, if_neg (by rw [ox]; decide)]
      have k := hK; rw [e] at k; exact k _ (AN.no th (show (1 : Int32) ≠ 0 by decide))
theorem ask_same {p : Nat} (h : fnOf (Fd p) = fnOf (F p)) (v : Nat) : askB Fd o p v = askB F o p v := by
  funext j
  unfold askB
  rw [h]
theorem q_L_asked (h : CS hd P w R0 m F o u) {x y s : Int32} {K : Int32 → PS → Prop} (hK : ∀ u' : PS, AN hd P w R0 (m + 1) F o u (sp_asked x y s F o).1 (sp_asked x y s F o).2 u' → K (sp_asked x y s F o).1 u') : p_L_asked hd x y s w u K := by
  have th := CK.th h
  obtain ⟨⟨hw, oa⟩, n, R, L, Fd, rt, ad, S, I, ln, z, e, t, g, D, rfl, hs, ch, b⟩ := h
  have hv := hs.1.1
  unfold p_L_asked p_H_asked
  have bad : (okP x && decide (¬ s < 0)) = false → K 1 (x_th u) := fun q => by
    have e : sp_asked x y s F o = (1, 0) := by unfold sp_asked; rw [if_neg (by rw [q]; decide)]
    have k := hK; rw [e] at k; exact k _ (AN.no th (show (1 : Int32) ≠ 0 by decide))
  refine ⟨hv.obH (by decide), q_needPlace (fun ox => ?_) (fun ox => Or.inl ⟨rfl, bad (by rw [ox, Bool.false_and])⟩)⟩
  by_cases c : s < 0
  · exact br_f (fun q => (Int32.not_lt.mpr q) c) (Or.inl ⟨rfl, bad (by rw [decide_eq_false (fun q => q c), Bool.and_false])⟩)
  · have ok : (okP x && decide (¬ s < 0)) = true := by rw [ox, decide_eq_true c]; rfl
    refine br_t (Int32.not_lt.mp c) (q_needBelow (N := 1023) (by decide) (fun oy => ?_) (fun oy => Or.inr ⟨rfl, ?_⟩))
    · obtain ⟨p, hp, rfl⟩ := okP_nI ox
      obtain ⟨v, hv', rfl⟩ := okW_nI oy
      have e : sp_asked (nI p) (nI v) s F o = (0, askF (askB F o p v) o s 10 0 0) := by unfold sp_asked; rw [if_pos ok, if_pos (show okW (nI v) = true from oy), nI_clamp (by omega), nI_clamp (by omega)]
      have k := hK; rw [e] at k
      rw [nI_pw (by omega)]
      refine ⟨_, hv.fH (by decide) rfl, hv.obD (by decide), q_D_draw hs ch (pm := 2 ^ p) (Nat.pow_lt_pow_right (by decide) hp) (fun u1 L1 Fd1 e1 rt1 ad1 S1 I1 ln1 z1 g1 D1 v1 v2 v3 v4 => ?_)⟩
      have dr := v2.2 p hp (v3 p hp Nat.testBit_two_pow_self)
      rw [← v4 0 (by omega)]
      refine ⟨_, v1.1.1.fH (by decide) rfl, v1.1.1.obD (by decide), q_D_questionOf v1 hp hv' ?_⟩
      rw [ask_same dr.1]
      exact AN.out (CK.of v1 v2 (v4 0 (by omega)) hw oa b.s) k
    · have e : sp_asked x y s F o = (2, 0) := by unfold sp_asked; rw [if_pos ok, if_neg (show ¬ okW y = true from fun q => by rw [show okW y = false from oy] at q; exact absurd q (by decide))]
      have k := hK; rw [e] at k; exact k _ (AN.no th (show (2 : Int32) ≠ 0 by decide))
theorem q_L_questions (h : CS hd P w R0 m F o u) {x : Int32} {K : Int32 → PS → Prop} (hK : ∀ u' : PS, AN hd P w R0 (m + 1) F o u (sp_questions x F o).1 (sp_questions x F o).2 u' → K (sp_questions x F o).1 u') : p_L_questions hd x w u K := by
  have th := CK.th h
  obtain ⟨⟨hw, oa⟩, n, R, L, Fd, rt, ad, S, I, ln, z, e, t, g, D, rfl, hs, ch, b⟩ := h
  have hv := hs.1.1
  have ho := hs.2.2.2.2.1
  unfold p_L_questions p_H_questions
  refine ⟨hv.obH (by decide), q_needInput (fun ox => ?_) (fun ox => ⟨rfl, ?_⟩)⟩
  · obtain ⟨i, hi, rfl⟩ := okI_nI ox
    have e : sp_questions (nI i) F o = (0, nI (kpO F o i)) := by unfold sp_questions; rw [if_pos ox, nI_clamp (by omega)]
    have k := hK; rw [e] at k
    rw [show (16777215 : Int32) = nI 16777215 from rfl]
    refine ⟨_, hv.fH (by decide) rfl, hv.obD (by decide), q_D_draw hs ch (pm := 16777215) (by decide) (fun u1 L1 Fd1 e1 rt1 ad1 S1 I1 ln1 z1 g1 D1 v1 v2 v3 v4 => ?_)⟩
    have os := v1.os v2 (fun p hp => v3 p hp (all24 p hp))
    rw [← v4 0 (by omega)]
    refine ⟨_, v1.1.1.fH (by decide) rfl, v1.1.1.obD (by decide), ?_⟩
    unfold p_D_questionsFor p_N_asksFor
    have l9 : ln1 9 = 10 := v1.1.2.1.2.2.1.2.2.1
    have r9 := v1.1.1.ia 9 (by decide) (ii (by decide)) (j := i) (by omega) (by omega)
    obtain ⟨q1, q2⟩ := posO_spec ho hi
    have q3 := os.1.nq ho q1
    rw [q2] at q3
    rw [show I1 9 i = kpO F o i from q3] at r9
    exact ⟨_, v1.1.1.fD (by decide) rfl, v1.1.1.obN (by decide), _, v1.1.1.fN (by decide) rfl, _, r9, AN.out (CK.of v1 v2 (v4 0 (by omega)) hw oa b.s) k⟩
  · have e : sp_questions x F o = (1, 0) := by unfold sp_questions; rw [if_neg (by rw [ox]; decide)]
    have k := hK; rw [e] at k; exact k _ (AN.no th (show (1 : Int32) ≠ 0 by decide))
/-- the order has changed -/
theorem OS.hs (h : HS n L E R F Fd o rt ad S I ln z u e t g D) (ch : CHG F Fd S) (h2 : ∀ p : Nat, p < 24 → (S 2).testBit p = false) {n' : Nat} {o' ad' S' : Nat → Nat} {I' : Nat → Nat → Nat} {ln' : Nat → Nat} {z' : Nat × Nat} {u' : PS} {e' t' : Nat} {g' : Nat → Nat} {D' : Nat → Fn} (os : OS L E R F rt n' o' ad' S' I' ln' z' u' e' t' g' D') (ho : PO o') (fr : FSE ad S I ln ad' S' I' ln') : HS (n', n.2) L E R F F o' rt ad' S' I' ln' z' u' e' t' g' D' ∧ CHG F F S' := by
  obtain ⟨ns, fk, ⟨h37, h38⟩, lns, _, _, _, _, ⟨k1, k2⟩⟩ := h
  obtain ⟨ns', g37, _, _, g3, g4, ts, te, m1, m2⟩ := os
  obtain ⟨a1, a2, a3, a4, a5, a6, a7, a8, a9, a10, a11, a12⟩ := lns
  have q := fun i (hi : i < 7 ∨ 30 ≤ i) => (fr.1 i hi).2
  refine ⟨⟨ns', fk.same (fr.2.2.1 0 (by omega)) (fr.2.2.1 1 (by omega)) (fr.2.1 6 (by omega)) (fun _ _ => rfl), ⟨g37, fun p hp => by rw [fr.2.1 38 (by omega)]; exact h38 p hp⟩, ⟨by rw [q 6 (by omega)]; exact a1, by rw [q 30 (by omega)]; exact a2, by rw [q 31 (by omega)]; exact a3, by rw [q 32 (by omega)]; exact a4, by rw [q 33 (by omega)]; exact a5, by rw [q 34 (by omega)]; exact a6, by rw [q 35 (by omega)]; exact a7, by rw [q 36 (by omega)]; exact a8, by rw [q 37 (by omega)]; exact a9, by rw [q 38 (by omega)]; exact a10, by rw [q 39 (by omega)]; exact a11, by rw [q 40 (by omega)]; exact a12⟩, ho, ⟨g3, g4⟩, ⟨ts, te⟩, ⟨m1, m2⟩, ⟨fun k => by rw [fr.2.2.1 11 (by omega)]; exact fr.2.2.2 _ k1 k, by rw [fr.2.2.1 11 (by omega)]; exact k2⟩⟩, by rw [fr.2.2.1 2 (by omega)]; exact ch.1, fun p hp _ => ⟨rfl, by rw [fr.2.2.1 0 (by omega)]; exact (ch.2 p hp (h2 p hp)).2⟩⟩
theorem FSE.of {ad' S' : Nat → Nat} {I' : Nat → Nat → Nat} {ln' : Nat → Nat} (h : FSD ad S I ln ad' S' I' ln') : FSE ad S I ln ad' S' I' ln' := ⟨h.1, fun i hi => h.2.1 i (by omega), h.2.2.1, h.2.2.2⟩
theorem q_L_move (h : CS hd P w R0 m F o u) {x y : Int32} {K : Int32 → PS → Prop} (hK : ∀ u' : PS, AN hd P w R0 (m + 1) F (sp_move x y F o).2 u (sp_move x y F o).1.1 (sp_move x y F o).1.2 u' → K (sp_move x y F o).1.1 u') : p_L_move hd x y w u K := by
  have th := CK.th h
  obtain ⟨⟨hw, oa⟩, n, R, L, Fd, rt, ad, S, I, ln, z, e, t, g, D, rfl, hs, ch, b⟩ := h
  have hv := hs.1.1
  have ho := hs.2.2.2.2.1
  unfold p_L_move p_H_move
  have bad : (okI x && okI y) = false → K 1 (x_th u) := fun q => by
    have e : sp_move x y F o = ((1, 0), o) := by unfold sp_move; rw [if_neg (by rw [q]; decide)]
    have k := hK; rw [e] at k; exact k _ (AN.no th (show (1 : Int32) ≠ 0 by decide))
  refine ⟨hv.obH (by decide), q_needInput (fun ox => q_needBelow (N := 9) (by decide) (fun oy => ?_) (fun oy => ⟨rfl, bad (by rw [show okI y = false from oy, Bool.and_false])⟩)) (fun ox => ⟨rfl, bad (by rw [ox, Bool.false_and])⟩)⟩
  have ok : (okI x && okI y) = true := by rw [ox, show okI y = true from oy]; rfl
  obtain ⟨i, hi, rfl⟩ := okI_nI ox
  obtain ⟨j, hj, rfl⟩ := okI_nI oy
  have e : sp_move (nI i) (nI j) F o = ((0, nI (wh (PR 0 24) F (mvO o i j))), mvO o i j) := by unfold sp_move; rw [if_pos ok, nI_clamp (by omega), nI_clamp (by omega)]
  have k := hK; rw [e] at k
  rw [show (16777215 : Int32) = nI 16777215 from rfl]
  refine ⟨_, hv.fH (by decide) rfl, hv.obD (by decide), q_D_draw hs ch (pm := 16777215) (by decide) (fun u1 L1 Fd1 e1 rt1 ad1 S1 I1 ln1 z1 g1 D1 v1 v2 v3 v4 => ?_)⟩
  have all : ∀ p : Nat, p < 24 → (S1 2).testBit p = false := fun p hp => v3 p hp (all24 p hp)
  have os := v1.os v2 all
  have hmo := mvO_PO ho hi hj
  rw [← v4 0 (by omega)]
  refine ⟨_, v1.1.1.fH (by decide) rfl, v1.1.1.obD (by decide), q_D_moveTo os ho hi hj (fun u2 e2 ad2 S2 I2 ln2 z2 g2 D2 y1 y2 => ?_)⟩
  obtain ⟨hs2, ch2⟩ := OS.hs v1 v2 all y1 hmo (FSE.of y2)
  have e0 : ad2 0 = ad1 0 := (y2.1 0 (by omega)).1
  rw [← e0]
  refine ⟨_, y1.1.1.fH (by decide) rfl, y1.1.1.obD (by decide), ?_⟩
  unfold p_D_wholeSize p_N_wholeSize
  refine ⟨_, y1.1.1.fD (by decide) rfl, y1.1.1.obN (by decide), _, y1.1.1.fN (by decide) rfl, ?_⟩
  rw [y1.1.size hmo]
  exact AN.out (CK.of hs2 ch2 (e0.trans (v4 0 (by omega))) hw oa b.s) k
theorem q_L_sift (h : CS hd P w R0 m F o u) (hm : m < 100000) {x : Int32} {K : Int32 → PS → Prop} (hK : ∀ u' : PS, AN hd P w R0 (m + 1) F (sp_sift x F o).2 u (sp_sift x F o).1.1 (sp_sift x F o).1.2 u' → K (sp_sift x F o).1.1 u') : p_L_sift hd x w u K := by
  have th := CK.th h
  obtain ⟨⟨hw, oa⟩, n, R, L, Fd, rt, ad, S, I, ln, z, e, t, g, D, rfl, hs, ch, b⟩ := h
  have hv := hs.1.1
  have ho := hs.2.2.2.2.1
  unfold p_L_sift p_H_sift
  refine ⟨hv.obH (by decide), q_needInput (fun ox => ?_) (fun ox => ⟨rfl, ?_⟩)⟩
  · obtain ⟨i, hi, rfl⟩ := okI_nI ox
    have e : sp_sift (nI i) F o = ((0, nI (siftP F o i)), siftO F o i) := by unfold sp_sift; rw [if_pos ox, nI_clamp (by omega)]
    have k := hK; rw [e] at k
    rw [show (16777215 : Int32) = nI 16777215 from rfl]
    refine ⟨_, hv.fH (by decide) rfl, hv.obD (by decide), q_D_draw hs ch (pm := 16777215) (by decide) (fun u1 L1 Fd1 e1 rt1 ad1 S1 I1 ln1 z1 g1 D1 v1 v2 v3 v4 => ?_)⟩
    have all : ∀ p : Nat, p < 24 → (S1 2).testBit p = false := fun p hp => v3 p hp (all24 p hp)
    have os := v1.os v2 all
    rw [← v4 0 (by omega)]
    refine ⟨_, v1.1.1.fH (by decide) rfl, v1.1.1.obD (by decide), q_D_settle os ho hi (by have := b.1; omega) (fun u2 e2 t2 ad2 S2 I2 ln2 z2 g2 D2 y1 y2 => ?_)⟩
    obtain ⟨hs2, ch2⟩ := OS.hs v1 v2 all y1 (siftO_PO ho hi) (FSE.of y2)
    exact AN.out (CK.of hs2 ch2 ((y2.1 0 (by omega)).1.trans (v4 0 (by omega))) hw oa ⟨by have := b.1; dsimp only; omega, by have := b.2.1; dsimp only; omega, by have := b.2.2.1; omega, by have := b.2.2.2; omega⟩) k
  · have e : sp_sift x F o = ((1, 0), o) := by unfold sp_sift; rw [if_neg (by rw [ox]; decide)]
    have k := hK; rw [e] at k; exact k _ (AN.no th (show (1 : Int32) ≠ 0 by decide))
theorem q_H_siftAll (h : CS hd P w R0 m F o u) (hm : m < 100000) {K : Int32 → PS → Prop} (hK : ∀ u' : PS, CK hd P w R0 (m + 1) F (saO F o) u u' → K (nI (wh (PR 0 24) F (saO F o))) u') : p_H_siftAll hd u K := by
  obtain ⟨⟨hw, oa⟩, n, R, L, Fd, rt, ad, S, I, ln, z, e, t, g, D, rfl, hs, ch, b⟩ := h
  have hv := hs.1.1
  have ho := hs.2.2.2.2.1
  unfold p_H_siftAll
  rw [show (16777215 : Int32) = nI 16777215 from rfl]
  refine ⟨_, hv.fH (by decide) rfl, hv.obD (by decide), q_D_draw hs ch (pm := 16777215) (by decide) (fun u1 L1 Fd1 e1 rt1 ad1 S1 I1 ln1 z1 g1 D1 v1 v2 v3 v4 => ?_)⟩
  have all : ∀ p : Nat, p < 24 → (S1 2).testBit p = false := fun p hp => v3 p hp (all24 p hp)
  have os := v1.os v2 all
  have l40 : ln1 40 = 10 := v1.2.2.2.1.2.2.2.2.2.2.2.2.2.2.2
  have hpo10 : PO (saO F o) := saN_PO (F := F) (kp := kpO F o) ho 10 (Nat.le_refl _)
  rw [← v4 0 (by omega)]
  refine ⟨_, v1.1.1.fH (by decide) rfl, v1.1.1.obD (by decide), q_H_sa os ho l40 (by have := b.1; omega) (fun u2 e2 t2 ad2 S2 I2 ln2 z2 g2 D2 y1 y2 => ?_)⟩
  obtain ⟨hs2, ch2⟩ := OS.hs v1 v2 all y1 hpo10 y2
  exact hK _ (CK.of hs2 ch2 ((y2.1 0 (by omega)).1.trans (v4 0 (by omega))) hw oa ⟨by have := b.1; dsimp only; omega, by have := b.2.1; dsimp only; omega, by have := b.2.2.1; omega, by have := b.2.2.2; omega⟩)
end CA2
