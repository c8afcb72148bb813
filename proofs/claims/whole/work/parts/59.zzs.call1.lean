/-! the house's calls as the law makes them: those that change functions -/
def OA (w : Nat) (u : PS) : Prop := ∃ f : Nat → Int64, u.1 w = some (.inl (1, 1, .inr (.inl f)))
def OV (w : Nat) (x : Int64) (u : PS) : Prop := ∃ f : Nat → Int64, u.1 w = some (.inl (1, 1, .inr (.inl f))) ∧ f 0 = x
def BND (R0 : Nat × Nat) (m : Nat) (n R : Nat × Nat) : Prop := n.1 ≤ 10 * m ∧ n.2 ≤ m ∧ R.1 ≤ R0.1 + m ∧ R.2 ≤ R0.2 + 6 * m
def CS (hd : Nat) (P : Nat → Prop) (w : Nat) (R0 : Nat × Nat) (m : Nat) (F : Nat → Nat → Bool) (o : Nat → Nat) (u : PS) : Prop :=
  (P w ∧ OA w u) ∧ ∃ (n R : Nat × Nat) (L : Nat → Nat → Int64) (Fd : Nat → Nat → Bool) (rt ad S : Nat → Nat) (I : Nat → Nat → Nat) (ln : Nat → Nat) (z : Nat × Nat) (e t : Nat) (g : Nat → Nat) (D : Nat → Fn), ad 0 = hd ∧ HS n L (P, u.1) R F Fd o rt ad S I ln z u e t g D ∧ CHG F Fd S ∧ BND R0 m n R
def CK (hd : Nat) (P : Nat → Prop) (w : Nat) (R0 : Nat × Nat) (m : Nat) (F : Nat → Nat → Bool) (o : Nat → Nat) (u0 u : PS) : Prop := CS hd P w R0 m F o u ∧ ∀ q : Nat, P q → q ≠ w → u.1 q = u0.1 q
section CAL
variable {hd w m : Nat} {P : Nat → Prop} {R0 : Nat × Nat} {L : Nat → Nat → Int64} {E : (Nat → Prop) × (Nat → Option PE)} {R n : Nat × Nat} {e t : Nat} {o rt : Nat → Nat} {ad S : Nat → Nat} {I : Nat → Nat → Nat} {ln : Nat → Nat} {z : Nat × Nat} {u u0 : PS} {g : Nat → Nat} {D : Nat → Fn} {F Fd : Nat → Nat → Bool}
theorem CK.of (hs : HS n L (P, u0.1) R F Fd o rt ad S I ln z u e t g D) (ch : CHG F Fd S) (h0 : ad 0 = hd) (hw : P w) (oa : OA w u0) (b : BND R0 m n R) : CK hd P w R0 m F o u0 u := by
  have k : ∀ q : Nat, P q → u.1 q = u0.1 q := fun q hq => (hs.1.1.2.2.2.1 q hq).2
  refine ⟨⟨⟨hw, ?_⟩, n, R, L, Fd, rt, ad, S, I, ln, z, e, t, g, D, h0, hs.re (E := (P, u0.1)) (u' := u) (fun _ _ => rfl) rfl, ch, b⟩, fun q hq _ => k q hq⟩
  obtain ⟨f, hf⟩ := oa
  exact ⟨f, by rw [k w hw]; exact hf⟩
theorem BND.s (h : BND R0 m n R) : BND R0 (m + 1) n R := ⟨by have := h.1; omega, by have := h.2.1; omega, by have := h.2.2.1; omega, by have := h.2.2.2; omega⟩
theorem CK.th (h : CS hd P w R0 m F o u) : CK hd P w R0 (m + 1) F o u (x_th u) := by
  obtain ⟨⟨hw, oa⟩, n, R, L, Fd, rt, ad, S, I, ln, z, e, t, g, D, h0, hs, ch, b⟩ := h
  exact CK.of hs.th ch h0 hw oa ⟨by have := b.1; omega, by have := b.2.1; omega, by have := b.2.2.1; dsimp only; omega, by have := b.2.2.2; dsimp only; omega⟩
theorem CK.rf (h : CS hd P w R0 m F o u) : CK hd P w R0 (m + 1) F o u u := by
  obtain ⟨⟨hw, oa⟩, n, R, L, Fd, rt, ad, S, I, ln, z, e, t, g, D, h0, hs, ch, b⟩ := h
  exact CK.of hs ch h0 hw oa b.s
/-- an answer is put down -/
theorem CK.out (h : CK hd P w R0 m F o u0 u) (x : Int64) {K : PS → Prop} (hK : ∀ u' : PS, CK hd P w R0 m F o u0 u' → OV w x u' → K u') : ∃ u' : PS, x_ls u w (0 : Int32) x u' ∧ K u' := by
  obtain ⟨⟨⟨hw, ⟨f, hf⟩⟩, n, R, L, Fd, rt, ad, S, I, ln, z, e, t, g, D, h0, hs, ch, b⟩, hk⟩ := h
  have ne : ∀ i : Nat, i < 69 → ad i ≠ w := fun i hi q => (hs.1.1.2.2.1 i hi).2 (by rw [q]; exact hw)
  refine ⟨_, ⟨1, f, hf, vp_in_nI (n := 0) (N := 1) (by decide) (by decide), rfl⟩, hK _ ⟨⟨⟨hw, ⟨_, x_up_s _ _ _⟩⟩, n, R, L, Fd, rt, ad, S, I, ln, z, e, t, g, D, h0, hs.re (E := (P, u.1)) (fun i hi => x_up_n u _ (ne i hi)) rfl, ch, b⟩, fun q hq hne => by rw [x_up_n u _ hne]; exact hk q hq hne⟩ ⟨_, x_up_s _ _ _, pk_uLs⟩⟩
/-- a function has changed -/
theorem CS.chg (hs : HS n L (P, u.1) R F Fd o rt ad S I ln z u e t g D) (ch : CHG F Fd S) (hw : P w) (oa : OA w u) (b : BND R0 m n R) {p : Nat} (hp : p < 24) {f : Nat → Bool} {u1 : PS} {ad' S' : Nat → Nat} {I' : Nat → Nat → Nat} {L' : Nat → Nat → Int64} (hv : VC 69 ad' S' I' ln L' (P, u.1) z u1) (fk : FK (upF F p f) S' I' L') (fr : FRF p ad S I ad' S' I') {K : PS → Prop} (hK : ∀ u' : PS, CK (ad 0) P w R0 (m + 1) (upF F p f) o u u' → K u') : ∃ z_5 : Nat, x_fr u1 (ad 0) 5 1 z_5 ∧ (x_ob u1 z_5 0 ∧ (p_D_functionChanged z_5 (nI p) u1 (fun (u_6 : PS) => (K u_6)))) :=
  q_H_chg hs ch hp hv fk fr (fun u2 S2 w1 w2 w3 => hK u2 (CK.of w1 w2 w3 hw oa b.s))
theorem q_L_constant (h : CS hd P w R0 m F o u) {x y : Int32} {K : Int32 → PS → Prop} (hK : ∀ u' : PS, CK hd P w R0 (m + 1) (sp_constant x y F).2 o u u' → K (sp_constant x y F).1 u') : p_L_constant hd x y u K := by
  have th := CK.th h
  obtain ⟨⟨hw, oa⟩, n, R, L, Fd, rt, ad, S, I, ln, z, e, t, g, D, rfl, hs, ch, b⟩ := h
  have hv := hs.1.1
  have l6 := hs.2.2.2.1.1
  unfold p_L_constant p_H_constant
  refine ⟨hv.obH (by decide), q_needPlace (fun ox => q_needTruth (fun oy => ?_) (fun oy => Or.inr ⟨rfl, ?_⟩)) (fun ox => Or.inl ⟨rfl, ?_⟩)⟩
  · obtain ⟨p, hp, rfl⟩ := okP_nI ox
    obtain ⟨c, rfl⟩ := okB_nI oy
    have e : sp_constant (nI p) (bI c) F = (0, upF F p (fun _ => c)) := by
      unfold sp_constant
      rw [if_pos ox, if_pos oy, nI_clamp (by omega), show decide (bI c = 1) = c by cases c <;> rfl]
    have k := hK
    rw [e] at k
    exact ⟨_, hv.fH (by decide) rfl, hv.obF (by decide), q_F_setAll hv l6 hs.2.1 hp c (fun u1 ad1 S1 I1 L1 v1 v2 v3 => CS.chg hs ch hw oa b hp v1 v2 v3 k)⟩
  · have e : sp_constant x y F = (2, F) := by unfold sp_constant; rw [if_pos ox, if_neg (by rw [oy]; decide)]
    have k := hK; rw [e] at k; exact k _ th
  · have e : sp_constant x y F = (1, F) := by unfold sp_constant; rw [if_neg (by rw [ox]; decide)]
    have k := hK; rw [e] at k; exact k _ th
theorem q_L_input (h : CS hd P w R0 m F o u) {x y : Int32} {K : Int32 → PS → Prop} (hK : ∀ u' : PS, CK hd P w R0 (m + 1) (sp_input x y F).2 o u u' → K (sp_input x y F).1 u') : p_L_input hd x y u K := by
  have th := CK.th h
  obtain ⟨⟨hw, oa⟩, n, R, L, Fd, rt, ad, S, I, ln, z, e, t, g, D, rfl, hs, ch, b⟩ := h
  have hv := hs.1.1
  have l6 := hs.2.2.2.1.1
  unfold p_L_input p_H_input
  refine ⟨hv.obH (by decide), q_needPlace (fun ox => q_needInput (fun oy => ?_) (fun oy => Or.inr ⟨rfl, ?_⟩)) (fun ox => Or.inl ⟨rfl, ?_⟩)⟩
  · obtain ⟨p, hp, rfl⟩ := okP_nI ox
    obtain ⟨k0, hk0, rfl⟩ := okI_nI oy
    have e : sp_input (nI p) (nI k0) F = (0, upF F p (fun v => v.testBit k0)) := by
      unfold sp_input
      rw [if_pos ox, if_pos oy, nI_clamp (by omega), nI_clamp (by omega)]
    have k := hK
    rw [e] at k
    exact ⟨_, hv.fH (by decide) rfl, hv.obF (by decide), q_F_setInput hv l6 hs.2.1 hp hk0 (fun u1 ad1 S1 I1 L1 v1 v2 v3 => CS.chg hs ch hw oa b hp v1 v2 v3 k)⟩
  · have e : sp_input x y F = (2, F) := by unfold sp_input; rw [if_pos ox, if_neg (by rw [oy]; decide)]
    have k := hK; rw [e] at k; exact k _ th
  · have e : sp_input x y F = (1, F) := by unfold sp_input; rw [if_neg (by rw [ox]; decide)]
    have k := hK; rw [e] at k; exact k _ th
theorem and3 {a b c : Bool} (h : (a && b && c) = true) : a = true ∧ b = true ∧ c = true := by revert h; cases a <;> cases b <;> cases c <;> simp
theorem q_L_make (h : CS hd P w R0 m F o u) {x kd y r : Int32} {K : Int32 → PS → Prop} (hK : ∀ u' : PS, CK hd P w R0 (m + 1) (sp_make x kd y r F).2 o u u' → K (sp_make x kd y r F).1 u') : p_L_make hd x kd y r u K := by
  have th := CK.th h
  obtain ⟨⟨hw, oa⟩, n, R, L, Fd, rt, ad, S, I, ln, z, e, t, g, D, rfl, hs, ch, b⟩ := h
  have hv := hs.1.1
  have l6 := hs.2.2.2.1.1
  unfold p_L_make p_H_make
  refine ⟨hv.obH (by decide), q_needPlaces (fun ox => q_needBelow (N := 5) (by decide) (fun oy => ?_) (fun oy => Or.inr ⟨rfl, ?_⟩)) (fun ox => Or.inl ⟨rfl, ?_⟩)⟩
  · obtain ⟨o1, o2, o3⟩ := and3 ox
    obtain ⟨p, hp, rfl⟩ := okP_nI o1
    obtain ⟨q, hq, rfl⟩ := okP_nI o2
    obtain ⟨s, hsp, rfl⟩ := okP_nI o3
    obtain ⟨k0, hk0, rfl⟩ := okK_nI oy
    have e : sp_make (nI p) (nI k0) (nI q) (nI s) F = (0, upF F p (fun v => two k0 (F q v) (F s v))) := by
      unfold sp_make
      rw [if_pos ox, if_pos (show okK (nI k0) = true from oy), nI_clamp (by omega), nI_clamp (by omega), nI_clamp (by omega), nI_clamp (by omega)]
    have k := hK
    rw [e] at k
    exact ⟨_, hv.fH (by decide) rfl, hv.obF (by decide), q_F_join hv l6 hs.2.1 hp hq hsp hk0 (fun u1 ad1 S1 I1 L1 v1 v2 v3 => CS.chg hs ch hw oa b hp v1 v2 v3 k)⟩
  · have e : sp_make x kd y r F = (2, F) := by unfold sp_make; rw [if_pos ox, if_neg (show ¬ okK kd = true from fun q => by rw [show okK kd = false from oy] at q; exact absurd q (by decide))]
    have k := hK; rw [e] at k; exact k _ th
  · have e : sp_make x kd y r F = (1, F) := by unfold sp_make; rw [if_neg (by rw [ox]; decide)]
    have k := hK; rw [e] at k; exact k _ th
theorem q_L_choose (h : CS hd P w R0 m F o u) {x y r s : Int32} {K : Int32 → PS → Prop} (hK : ∀ u' : PS, CK hd P w R0 (m + 1) (sp_choose x y r s F).2 o u u' → K (sp_choose x y r s F).1 u') : p_L_choose hd x y r s u K := by
  have th := CK.th h
  obtain ⟨⟨hw, oa⟩, n, R, L, Fd, rt, ad, S, I, ln, z, e, t, g, D, rfl, hs, ch, b⟩ := h
  have hv := hs.1.1
  have l6 := hs.2.2.2.1.1
  unfold p_L_choose p_H_choose
  have bad : (okP x && okP y && okP r && okP s) = false → K 1 (x_th u) := fun q => by
    have e : sp_choose x y r s F = (1, F) := by unfold sp_choose; rw [if_neg (by rw [q]; decide)]
    have k := hK; rw [e] at k; exact k _ th
  refine ⟨hv.obH (by decide), q_needPlaces (fun ox => q_needPlace (fun oy => ?_) (fun oy => ⟨rfl, bad (by rw [oy, Bool.and_false])⟩)) (fun ox => ⟨rfl, bad (by rw [ox, Bool.false_and])⟩)⟩
  have ok4 : (okP x && okP y && okP r && okP s) = true := by rw [ox, oy]; rfl
  obtain ⟨o1, o2, o3⟩ := and3 ox
  obtain ⟨p, hp, rfl⟩ := okP_nI o1
  obtain ⟨q, hq, rfl⟩ := okP_nI o2
  obtain ⟨r', hr', rfl⟩ := okP_nI o3
  obtain ⟨s', hs', rfl⟩ := okP_nI oy
  have e : sp_choose (nI p) (nI q) (nI r') (nI s') F = (0, upF F p (fun v => if F q v then F r' v else F s' v)) := by
    unfold sp_choose
    rw [if_pos ok4, nI_clamp (by omega), nI_clamp (by omega), nI_clamp (by omega), nI_clamp (by omega)]
  have k := hK
  rw [e] at k
  exact ⟨_, hv.fH (by decide) rfl, hv.obF (by decide), q_F_select hv l6 hs.2.1 hp hq hr' hs' (fun u1 ad1 S1 I1 L1 v1 v2 v3 => CS.chg hs ch hw oa b hp v1 v2 v3 k)⟩
theorem and22 {a b : Bool} (h : (a && b && b) = true) : a = true ∧ b = true ∧ (a && b) = true := by revert h; cases a <;> cases b <;> simp
theorem and20 {a b : Bool} (h : (a && b && b) = false) : ¬ (a && b) = true := by revert h; cases a <;> cases b <;> simp
theorem q_L_fix (h : CS hd P w R0 m F o u) {x y k r : Int32} {K : Int32 → PS → Prop} (hK : ∀ u' : PS, CK hd P w R0 (m + 1) (sp_fix x y k r F).2 o u u' → K (sp_fix x y k r F).1 u') : p_L_fix hd x y k r u K := by
  have th := CK.th h
  obtain ⟨⟨hw, oa⟩, n, R, L, Fd, rt, ad, S, I, ln, z, e, t, g, D, rfl, hs, ch, b⟩ := h
  have hv := hs.1.1
  have l6 := hs.2.2.2.1.1
  unfold p_L_fix p_H_fix
  have bad : (okP x && okP y) = true → (okI k && okB r) = false → K 2 (x_th u) := fun q1 q2 => by
    have e : sp_fix x y k r F = (2, F) := by unfold sp_fix; rw [if_pos q1, if_neg (by rw [q2]; decide)]
    have k := hK; rw [e] at k; exact k _ th
  refine ⟨hv.obH (by decide), q_needPlaces (fun ox => q_needInput (fun oy => q_needTruth (fun oz => ?_) (fun oz => Or.inr ⟨rfl, bad (and22 ox).2.2 (by rw [oz, Bool.and_false])⟩)) (fun oy => Or.inr ⟨rfl, bad (and22 ox).2.2 (by rw [oy, Bool.false_and])⟩)) (fun ox => Or.inl ⟨rfl, ?_⟩)⟩
  · obtain ⟨o1, o2, o3⟩ := and22 ox
    have ok2 : (okI k && okB r) = true := by rw [oy, oz]; rfl
    obtain ⟨p, hp, rfl⟩ := okP_nI o1
    obtain ⟨q, hq, rfl⟩ := okP_nI o2
    obtain ⟨k0, hk0, rfl⟩ := okI_nI oy
    obtain ⟨c, rfl⟩ := okB_nI oz
    have e : sp_fix (nI p) (nI q) (nI k0) (bI c) F = (0, upF F p (fun v => F q (setb v k0 c))) := by
      unfold sp_fix
      rw [if_pos o3, if_pos ok2, nI_clamp (by omega), nI_clamp (by omega), nI_clamp (by omega), show decide (bI c = 1) = c by cases c <;> rfl]
    have k := hK
    rw [e] at k
    exact ⟨_, hv.fH (by decide) rfl, hv.obF (by decide), q_F_restrict hv l6 hs.2.1 c hp hq hk0 (fun u1 ad1 S1 I1 L1 v1 v2 v3 => CS.chg hs ch hw oa b hp v1 v2 v3 k)⟩
  · have e : sp_fix x y k r F = (1, F) := by unfold sp_fix; rw [if_neg (and20 ox)]
    have k := hK; rw [e] at k; exact k _ th
theorem q_L_compose (h : CS hd P w R0 m F o u) {x y k r : Int32} {K : Int32 → PS → Prop} (hK : ∀ u' : PS, CK hd P w R0 (m + 1) (sp_compose x y k r F).2 o u u' → K (sp_compose x y k r F).1 u') : p_L_compose hd x y k r u K := by
  have th := CK.th h
  obtain ⟨⟨hw, oa⟩, n, R, L, Fd, rt, ad, S, I, ln, z, e, t, g, D, rfl, hs, ch, b⟩ := h
  have hv := hs.1.1
  have l6 := hs.2.2.2.1.1
  unfold p_L_compose p_H_compose
  refine ⟨hv.obH (by decide), q_needPlaces (fun ox => q_needInput (fun oy => ?_) (fun oy => Or.inr ⟨rfl, ?_⟩)) (fun ox => Or.inl ⟨rfl, ?_⟩)⟩
  · obtain ⟨o1, o2, o3⟩ := and3 ox
    obtain ⟨p, hp, rfl⟩ := okP_nI o1
    obtain ⟨q, hq, rfl⟩ := okP_nI o2
    obtain ⟨s, hsp, rfl⟩ := okP_nI o3
    obtain ⟨k0, hk0, rfl⟩ := okI_nI oy
    have e : sp_compose (nI p) (nI q) (nI k0) (nI s) F = (0, upF F p (fun v => F q (setb v k0 (F s v)))) := by
      unfold sp_compose
      rw [if_pos ox, if_pos oy, nI_clamp (by omega), nI_clamp (by omega), nI_clamp (by omega), nI_clamp (by omega)]
    have k := hK
    rw [e] at k
    exact ⟨_, hv.fH (by decide) rfl, hv.obF (by decide), q_F_replace hv l6 hs.2.1 hp hq hk0 hsp (fun u1 ad1 S1 I1 L1 v1 v2 v3 => CS.chg hs ch hw oa b hp v1 v2 v3 k)⟩
  · have e : sp_compose x y k r F = (2, F) := by unfold sp_compose; rw [if_pos ox, if_neg (by rw [oy]; decide)]
    have k := hK; rw [e] at k; exact k _ th
  · have e : sp_compose x y k r F = (1, F) := by unfold sp_compose; rw [if_neg (by rw [ox]; decide)]
    have k := hK; rw [e] at k; exact k _ th
/-- quantified: as the reference does it -/
theorem PJ_q (q set : Nat) (t : Bool) (v : Nat) : PJ F q q set t v = qs t set (F q) 10 v := by
  unfold PJ
  cases t
  · rw [Bool.xor_false]
    congr 1
    funext x
    unfold mtF
    rw [Bool.xor_false, Bool.and_self]
  · rw [Bool.xor_true, qs_all]
    congr 2
    funext x
    unfold mtF
    rw [Bool.xor_true, Bool.and_self]
theorem PJ_m (q r set : Nat) (v : Nat) : PJ F q r set false v = qs false set (fun x => F q x && F r x) 10 v := by
  unfold PJ
  rw [Bool.xor_false]
  congr 1
  funext x
  unfold mtF
  rw [Bool.xor_false, Bool.xor_false]
theorem q_L_quantify (h : CS hd P w R0 m F o u) {x y r : Int32} {ev : Bool} {K : Int32 → PS → Prop} (hK : ∀ u' : PS, CK hd P w R0 (m + 1) (sp_quantify x y r ev F).2 o u u' → K (sp_quantify x y r ev F).1 u') : p_L_quantify hd x y r (bI ev) u K := by
  have th := CK.th h
  obtain ⟨⟨hw, oa⟩, n, R, L, Fd, rt, ad, S, I, ln, z, e, t, g, D, rfl, hs, ch, b⟩ := h
  have hv := hs.1.1
  have l6 := hs.2.2.2.1.1
  unfold p_L_quantify p_H_quantify
  refine ⟨hv.obH (by decide), q_needPlaces (fun ox => q_needBelow (N := 1023) (by decide) (fun oy => ?_) (fun oy => Or.inr ⟨rfl, ?_⟩)) (fun ox => Or.inl ⟨rfl, ?_⟩)⟩
  · obtain ⟨o1, o2, o3⟩ := and22 ox
    obtain ⟨p, hp, rfl⟩ := okP_nI o1
    obtain ⟨q, hq, rfl⟩ := okP_nI o2
    obtain ⟨k0, hk0, rfl⟩ := okW_nI oy
    have e : sp_quantify (nI p) (nI q) (nI k0) ev F = (0, upF F p (qs ev k0 (F q) 10)) := by
      unfold sp_quantify
      rw [if_pos o3, if_pos (show okW (nI k0) = true from oy), nI_clamp (by omega), nI_clamp (by omega), nI_clamp (by omega)]
    have k := hK
    rw [e] at k
    exact ⟨_, hv.fH (by decide) rfl, hv.obF (by decide), q_F_project hv l6 hs.2.1 ev hp hq hq hk0 (fun u1 ad1 S1 I1 L1 v1 v2 v3 => CS.chg hs ch hw oa b hp v1 (v2.congr (fun v _ => PJ_q q k0 ev v)) v3 k)⟩
  · have e : sp_quantify x y r ev F = (2, F) := by unfold sp_quantify; rw [if_pos (and22 ox).2.2, if_neg (show ¬ okW r = true from fun q => by rw [show okW r = false from oy] at q; exact absurd q (by decide))]
    have k := hK; rw [e] at k; exact k _ th
  · have e : sp_quantify x y r ev F = (1, F) := by unfold sp_quantify; rw [if_neg (and20 ox)]
    have k := hK; rw [e] at k; exact k _ th
theorem q_L_meet (h : CS hd P w R0 m F o u) {x y r s : Int32} {K : Int32 → PS → Prop} (hK : ∀ u' : PS, CK hd P w R0 (m + 1) (sp_meet x y r s F).2 o u u' → K (sp_meet x y r s F).1 u') : p_L_meet hd x y r s u K := by
  have th := CK.th h
  obtain ⟨⟨hw, oa⟩, n, R, L, Fd, rt, ad, S, I, ln, z, e, t, g, D, rfl, hs, ch, b⟩ := h
  have hv := hs.1.1
  have l6 := hs.2.2.2.1.1
  unfold p_L_meet p_H_meet
  refine ⟨hv.obH (by decide), q_needPlaces (fun ox => q_needBelow (N := 1023) (by decide) (fun oy => ?_) (fun oy => Or.inr ⟨rfl, ?_⟩)) (fun ox => Or.inl ⟨rfl, ?_⟩)⟩
  · obtain ⟨o1, o2, o3⟩ := and3 ox
    obtain ⟨p, hp, rfl⟩ := okP_nI o1
    obtain ⟨q, hq, rfl⟩ := okP_nI o2
    obtain ⟨s', hsp, rfl⟩ := okP_nI o3
    obtain ⟨k0, hk0, rfl⟩ := okW_nI oy
    have e : sp_meet (nI p) (nI q) (nI s') (nI k0) F = (0, upF F p (qs false k0 (fun v => F q v && F s' v) 10)) := by
      unfold sp_meet
      rw [if_pos ox, if_pos (show okW (nI k0) = true from oy), nI_clamp (by omega), nI_clamp (by omega), nI_clamp (by omega), nI_clamp (by omega)]
    have k := hK
    rw [e] at k
    exact ⟨_, hv.fH (by decide) rfl, hv.obF (by decide), q_F_project hv l6 hs.2.1 false hp hq hsp hk0 (fun u1 ad1 S1 I1 L1 v1 v2 v3 => CS.chg hs ch hw oa b hp v1 (v2.congr (fun v _ => PJ_m q s' k0 v)) v3 k)⟩
  · have e : sp_meet x y r s F = (2, F) := by unfold sp_meet; rw [if_pos ox, if_neg (show ¬ okW s = true from fun q => by rw [show okW s = false from oy] at q; exact absurd q (by decide))]
    have k := hK; rw [e] at k; exact k _ th
  · have e : sp_meet x y r s F = (1, F) := by unfold sp_meet; rw [if_neg (by rw [ox]; decide)]
    have k := hK; rw [e] at k; exact k _ th
end CAL
