/-! the law's loop: the house and the reference side by side -/
def LI (sz s0 m : Nat) (u : PS) : Prop := ∃ (F : Nat → Nat → Bool) (o : Nat → Nat) (t : Int32) (n : Nat), CS sz (PX sz) (sz + 81) (sz + 82, s0) m F o u ∧ RM (adM sz) u F o t n u ∧ n ≤ 1020 * m
section LAW
variable {sz s0 m n n' : Nat} {F F' : Nat → Nat → Bool} {o o' : Nat → Nat} {t t' : Int32} {u u1 u2 : PS} {R0 : Nat × Nat} {b : PS}
theorem CS.po {hd w : Nat} {P : Nat → Prop} (h : CS hd P w R0 m F o u) : PO o := by
  obtain ⟨_, n, R, L, Fd, rt, ad, S, I, ln, z, e, t, g, D, _, hs, _⟩ := h
  exact hs.2.2.2.2.1
theorem CS.ob {hd w : Nat} {P : Nat → Prop} (h : CS hd P w R0 m F o u) : x_ob u hd 5 := by
  obtain ⟨_, n, R, L, Fd, rt, ad, S, I, ln, z, e, t, g, D, h0, hs, _⟩ := h
  rw [← h0]
  exact hs.1.1.obH (by decide)
theorem RM.ob (h : RM (adM sz) b F o t n u) : x_ob u (adM sz 0) 6 := by
  obtain ⟨S, I, hv, _⟩ := h
  exact hv.ob
theorem LI.ref (hr : RM (adM sz) u F o t n u) (k : CK sz (PX sz) (sz + 81) R0 m F' o' u u1) : RM (adM sz) u1 F o t n u1 := by
  obtain ⟨S, I, hv, r⟩ := hr
  refine ⟨S, I, ⟨fun i hi => ?_, hv.2.1, fun _ _ => rfl, rfl⟩, r⟩
  rw [k.2 (adM sz i) ⟨by unfold adM; omega, by unfold adM; omega⟩ (by unfold adM; omega)]
  exact hv.1 i hi
theorem LI.far (r : RM (adM sz) b F o t n u) {q : Nat} (hq : q < sz + 69 ∨ sz + 81 ≤ q) : u.1 q = b.1 q := by
  obtain ⟨S, I, hv, _⟩ := r
  exact hv.2.2.1 q (fun i hi e => by unfold adM at e; omega)
theorem LI.two (r : RM (adM sz) b F o t n u) : u.2 = b.2 := by
  obtain ⟨S, I, hv, _⟩ := r
  exact hv.2.2.2
theorem LI.nx (k : CK sz (PX sz) (sz + 81) (sz + 82, s0) (m + 1) F' o' u u1) (r : RM (adM sz) u1 F' o' t' n' u2) (hn : n' ≤ 1020 * (m + 1)) : LI sz s0 (m + 1) u2 := by
  obtain ⟨⟨⟨hw, ⟨f, hf⟩⟩, n, R, L, Fd, rt, ad, S, I, ln, z, e, t, g, D, h0, hs, ch, bd⟩, _⟩ := k
  have far := fun (q : Nat) (hq : q < sz + 69 ∨ sz + 81 ≤ q) => LI.far r hq
  have two := LI.two r
  refine ⟨F', o', t', n', ⟨⟨hw, ⟨f, by rw [far _ (Or.inr (Nat.le_refl _))]; exact hf⟩⟩, n, R, L, Fd, rt, ad, S, I, ln, z, e, t, g, D, h0, hs.re (E := (PX sz, u1.1)) (fun i hi => far _ ?_) two, ch, bd⟩, ?_, hn⟩
  · have w := (hs.1.1.2.2.1 i hi).2
    by_cases c : ad i < sz + 69
    · exact Or.inl c
    · refine Or.inr (Classical.byContradiction (fun q => w ⟨by omega, by omega⟩))
  · obtain ⟨S, I, hv, r⟩ := r
    exact ⟨S, I, ⟨hv.1, hv.2.1, fun _ _ => rfl, rfl⟩, r⟩
theorem LI.s (h : LI sz s0 m u) : LI sz s0 (m + 1) u := by
  obtain ⟨F, o, t, n, hc, hr, hn⟩ := h
  exact ⟨F, o, t, n, (CK.rf hc).1, hr, by omega⟩
theorem OV.nx {x : Int64} (ov : OV (sz + 81) x u1) (r : RM (adM sz) u1 F' o' t' n' u2) : x_la u2 (sz + 81) (0 : Int32) x := by
  obtain ⟨f, hf, e⟩ := ov
  exact ⟨1, f, by rw [LI.far r (Or.inr (Nat.le_refl _))]; exact hf, vp_in_nI (n := 0) (N := 1) (by decide) (by decide), e⟩
theorem lg_same (x : Int64) : lg_cmp x x = 0 := (lg_cmp_eq x x).mpr rfl
theorem an_tail {c x : Int32} {w : Nat} {A B C : Prop} (hA : A) (ov : c = 0 → x_la u w (0 : Int32) x.toInt64) : (c = c → ((¬ c = 0 → A) ∧ (c = 0 → (∃ z : Int64, x_la u w (0 : Int32) z ∧ ((lg_cmp z x.toInt64 = 0 → A) ∧ (¬ lg_cmp z x.toInt64 = 0 → B)))))) ∧ (¬ c = c → C) :=
  ⟨fun _ => ⟨fun _ => hA, fun q => ⟨_, ov q, fun _ => hA, fun z => absurd (lg_same _) z⟩⟩, fun z => absurd rfl z⟩
theorem an_tailb {c x : Int32} {w : Nat} {A C : Prop} {G : Int64 → Int64 → Prop} (hx : x = 0 ∨ x = 1) (hA : A) (hG : ∀ y : Int64, G y y) (ov : c = 0 → x_la u w (0 : Int32) x.toInt64) : (c = c → ((¬ c = 0 → A) ∧ (c = 0 → (∃ z : Int64, x_la u w (0 : Int32) z ∧ ((x = 0 → G z 0) ∧ (¬ x = 0 → G z 1)))))) ∧ (¬ c = c → C) := by
  refine ⟨fun _ => ⟨fun _ => hA, fun q => ⟨_, ov q, fun e => ?_, fun e => ?_⟩⟩, fun z => absurd rfl z⟩
  · subst e; exact hG 0
  · rcases hx with hx | hx
    · exact absurd hx e
    · subst hx; exact hG 1
theorem sp_value_b (x y : Int32) (F : Nat → Nat → Bool) : (sp_value x y F).2 = 0 ∨ (sp_value x y F).2 = 1 := by
  unfold sp_value
  split
  · split
    · exact bI_z2 _
    · exact Or.inl rfl
  · exact Or.inl rfl
theorem sp_alike_b (x y : Int32) (F : Nat → Nat → Bool) : (sp_alike x y F).2 = 0 ∨ (sp_alike x y F).2 = 1 := by
  unfold sp_alike
  split
  · dsimp only
    exact bI_z2 _
  · exact Or.inl rfl
theorem lw_end {sL : Nat} (hL : sL ≤ 2560) (h1 : sL < 5 * m + 5) (h2 : 5 * m ≤ sL + 5) : (Int32.ofNat sL) - (5 : Int32) < nI (5 * m) := by
  show nI sL - nI 5 < nI (5 * m)
  rw [iZ_n, iZ_n, iZ_n, iZ_sub]
  exact (iZ_lt (by omega) (by omega) (by omega) (by omega)).mpr (by omega)
theorem lw_on {sL : Nat} (hL : sL ≤ 2560) (h1 : ¬ sL < 5 * m + 5) : ¬ (Int32.ofNat sL) - (5 : Int32) < nI (5 * m) := by
  show ¬ nI sL - nI 5 < nI (5 * m)
  rw [iZ_n, iZ_n, iZ_n, iZ_sub]
  exact fun q => absurd ((iZ_lt (by omega) (by omega) (by omega) (by omega)).mp q) (by omega)
theorem lw_in {sL k : Nat} (hL : sL ≤ 2560) (h1 : 5 * m + k < sL) : vp_in (nI (5 * m) + nI k) sL := by
  rw [nI_add]
  exact vp_in_nI h1 (by omega)

set_option maxHeartbeats 8000000 in
theorem lw_loop {sL : Nat} {xs : Nat → Int32} {x0 sz s0 : Nat} {E175 E223 E295 E367 E439 E511 E599 E671 E722 E739 E778 E795 E811 E847 E864 E903 E920 E959 E976 E1027 E1051 E1090 E1107 E1146 E1163 E1214 E1238 E1301 E1318 E1357 E1374 E1385 : PS → Prop} (hL : sL ≤ 2560) (hE : ∀ (m : Nat) (u : PS), m ≤ 513 → LI sz s0 m u → E1385 u) : ∀ (d m : Nat) (u : PS), sL < 5 * m + 5 * d + 5 → 5 * m ≤ sL + 5 → LI sz s0 m u → p_L_law_L23 sL xs x0 sz (adM sz 0) (sz + 81) E175 E223 E295 E367 E439 E511 E599 E671 E722 E739 E778 E795 E811 E847 E864 E903 E920 E959 E976 E1027 E1051 E1090 E1107 E1146 E1163 E1214 E1238 E1301 E1318 E1357 E1374 E1385 (d + 1) (nI (5 * m)) u := by
  intro d
  induction d with
  | zero =>
    intro m u h1 h2 h
    rw [p_L_law_L23]
    exact ⟨trivial, br_t (lw_end hL (by omega) h2) (hE m u (by omega) h)⟩
  | succ d ih =>
    intro m u h1 h2 h
    rw [p_L_law_L23]
    refine ⟨trivial, ?_⟩
    by_cases c : sL < 5 * m + 5
    · exact br_t (lw_end hL c h2) (hE m u (by omega) h)
    · refine br_f (lw_on hL c) ?_
      have nx : ∀ u2 : PS, LI sz s0 (m + 1) u2 → p_L_law_J1379 sL xs (p_L_law_L23 sL xs x0 sz (adM sz 0) (sz + 81) E175 E223 E295 E367 E439 E511 E599 E671 E722 E739 E778 E795 E811 E847 E864 E903 E920 E959 E976 E1027 E1051 E1090 E1107 E1146 E1163 E1214 E1238 E1301 E1318 E1357 E1374 E1385 (d + 1)) E175 E223 E295 E367 E439 E511 E599 E671 E722 E739 E778 E795 E811 E847 E864 E903 E920 E959 E976 E1027 E1051 E1090 E1107 E1146 E1163 E1214 E1238 E1301 E1318 E1357 E1374 E1385 x0 sz (adM sz 0) (sz + 81) (nI (5 * m)) u2 := fun u2 q => by
        unfold p_L_law_J1379
        intro y hy
        rw [hy, show (5 : Int32) = nI 5 from rfl, nI_add, show 5 * m + 5 = 5 * (m + 1) by omega]
        exact ih (m + 1) u2 (by omega) (by omega) q
      have v0 : vp_in (nI (5 * m)) sL := vp_in_nI (by omega) (by omega)
      have v1 : vp_in (nI (5 * m) + (1 : Int32)) sL := lw_in (k := 1) hL (by omega)
      have v2 : vp_in (nI (5 * m) + (2 : Int32)) sL := lw_in (k := 2) hL (by omega)
      have v3 : vp_in (nI (5 * m) + (3 : Int32)) sL := lw_in (k := 3) hL (by omega)
      have v4 : vp_in (nI (5 * m) + (4 : Int32)) sL := lw_in (k := 4) hL (by omega)
      have hs := h.s
      obtain ⟨F, o, t, n, hc, hr, hn⟩ := h
      have ho := hc.po
      have hm : m < 100000 := by omega
      refine ⟨v0, fun _ => ?_, fun _ => ?_, fun _ => ?_, fun _ => ?_, fun _ => ?_, fun _ => ?_, fun _ => ?_, fun _ => ?_, fun _ => ?_, fun _ => ?_, fun _ => ?_, fun _ => ?_, fun _ => ?_, fun _ => ?_, fun _ => ?_, fun _ => ?_, fun _ => ?_, fun _ => ?_, fun _ => ?_, fun _ => ?_, fun _ _ _ _ _ _ _ _ _ _ _ _ _ _ _ _ _ _ _ _ => nx u hs⟩
      · exact ⟨v1, v2, q_L_constant hc (fun u1 k => ⟨v1, v2, (LI.ref hr k).ob, q_M_constant (LI.ref hr k) (fun u2 r => ⟨r.ob, q_M_thrown r ⟨fun _ => nx u2 (LI.nx k r (by omega)), fun q => absurd rfl q⟩⟩)⟩)⟩
      · exact ⟨v1, v2, q_L_input hc (fun u1 k => ⟨v1, v2, (LI.ref hr k).ob, q_M_input (LI.ref hr k) (fun u2 r => ⟨r.ob, q_M_thrown r ⟨fun _ => nx u2 (LI.nx k r (by omega)), fun q => absurd rfl q⟩⟩)⟩)⟩
      · exact ⟨v1, v2, v3, v4, q_L_make hc (fun u1 k => ⟨v1, v2, v3, v4, (LI.ref hr k).ob, q_M_make (LI.ref hr k) (fun u2 r => ⟨r.ob, q_M_thrown r ⟨fun _ => nx u2 (LI.nx k r (by omega)), fun q => absurd rfl q⟩⟩)⟩)⟩
      · exact ⟨v1, v2, v3, v4, q_L_choose hc (fun u1 k => ⟨v1, v2, v3, v4, (LI.ref hr k).ob, q_M_choose (LI.ref hr k) (fun u2 r => ⟨r.ob, q_M_thrown r ⟨fun _ => nx u2 (LI.nx k r (by omega)), fun q => absurd rfl q⟩⟩)⟩)⟩
      · exact ⟨v1, v2, v3, v4, q_L_fix hc (fun u1 k => ⟨v1, v2, v3, v4, (LI.ref hr k).ob, q_M_fix (LI.ref hr k) (fun u2 r => ⟨r.ob, q_M_thrown r ⟨fun _ => nx u2 (LI.nx k r (by omega)), fun q => absurd rfl q⟩⟩)⟩)⟩
      · exact ⟨v1, v2, v3, v4, q_L_compose hc (fun u1 k => ⟨v1, v2, v3, v4, (LI.ref hr k).ob, q_M_compose (LI.ref hr k) (fun u2 r => ⟨r.ob, q_M_thrown r ⟨fun _ => nx u2 (LI.nx k r (by omega)), fun q => absurd rfl q⟩⟩)⟩)⟩
      · exact ⟨v1, v2, v3, v4, fun z => (show p_L_law_J549 sL xs (p_L_law_L23 sL xs x0 sz (adM sz 0) (sz + 81) E175 E223 E295 E367 E439 E511 E599 E671 E722 E739 E778 E795 E811 E847 E864 E903 E920 E959 E976 E1027 E1051 E1090 E1107 E1146 E1163 E1214 E1238 E1301 E1318 E1357 E1374 E1385 (d + 1)) E175 E223 E295 E367 E439 E511 E599 E671 E722 E739 E778 E795 E811 E847 E864 E903 E920 E959 E976 E1027 E1051 E1090 E1107 E1146 E1163 E1214 E1238 E1301 E1318 E1357 E1374 E1385 x0 sz (adM sz 0) (sz + 81) (nI (5 * m)) sz _ _ _ 0 u from q_L_quantify (ev := false) hc (fun u1 k => ⟨v1, v2, v3, v4, br_t z ⟨(LI.ref hr k).ob, q_M_quantify (ev := false) (LI.ref hr k) (fun u2 r => ⟨r.ob, q_M_thrown r ⟨fun _ => nx u2 (LI.nx k r (by omega)), fun q => absurd rfl q⟩⟩)⟩⟩)), fun z => (show p_L_law_J549 sL xs (p_L_law_L23 sL xs x0 sz (adM sz 0) (sz + 81) E175 E223 E295 E367 E439 E511 E599 E671 E722 E739 E778 E795 E811 E847 E864 E903 E920 E959 E976 E1027 E1051 E1090 E1107 E1146 E1163 E1214 E1238 E1301 E1318 E1357 E1374 E1385 (d + 1)) E175 E223 E295 E367 E439 E511 E599 E671 E722 E739 E778 E795 E811 E847 E864 E903 E920 E959 E976 E1027 E1051 E1090 E1107 E1146 E1163 E1214 E1238 E1301 E1318 E1357 E1374 E1385 x0 sz (adM sz 0) (sz + 81) (nI (5 * m)) sz _ _ _ 1 u from q_L_quantify (ev := true) hc (fun u1 k => ⟨v1, v2, v3, v4, br_f z ⟨(LI.ref hr k).ob, q_M_quantify (ev := true) (LI.ref hr k) (fun u2 r => ⟨r.ob, q_M_thrown r ⟨fun _ => nx u2 (LI.nx k r (by omega)), fun q => absurd rfl q⟩⟩)⟩⟩))⟩
      · exact ⟨v1, v2, v3, v4, q_L_meet hc (fun u1 k => ⟨v1, v2, v3, v4, (LI.ref hr k).ob, q_M_meet (LI.ref hr k) (fun u2 r => ⟨r.ob, q_M_thrown r ⟨fun _ => nx u2 (LI.nx k r (by omega)), fun q => absurd rfl q⟩⟩)⟩)⟩
      · exact ⟨v1, v2, q_L_move hc (fun u1 a => ⟨v1, v2, (LI.ref hr a.1).ob, q_M_move (LI.ref hr a.1) ho (by omega) (fun u2 r => ⟨r.ob, q_M_thrown r (an_tail (nx u2 (LI.nx a.1 r (by omega))) (fun q => OV.nx (a.2 q) r))⟩)⟩)⟩
      · exact ⟨v1, q_L_sift hc hm (fun u1 a => ⟨v1, (LI.ref hr a.1).ob, q_M_sift (LI.ref hr a.1) ho (by omega) (fun u2 r => ⟨r.ob, q_M_thrown r (an_tail (nx u2 (LI.nx a.1 r (by omega))) (fun q => OV.nx (a.2 q) r))⟩)⟩)⟩
      · exact ⟨hc.ob, q_H_siftAll hc hm (fun u1 k => ⟨(LI.ref hr k).ob, q_M_siftAll (LI.ref hr k) ho (by omega) (fun u2 r => ⟨fun _ => nx u2 (LI.nx k r (by omega)), fun q => absurd rfl q⟩)⟩)⟩
      · exact ⟨v1, q_L_order hc (fun u1 a => ⟨v1, (LI.ref hr a.1).ob, q_M_order (LI.ref hr a.1) (fun u2 r => ⟨r.ob, q_M_thrown r (an_tail (nx u2 (LI.nx a.1 r (by omega))) (fun q => OV.nx (a.2 q) r))⟩)⟩)⟩
      · exact ⟨v1, q_L_size hc hm (fun u1 a => ⟨v1, (LI.ref hr a.1).ob, q_M_size (LI.ref hr a.1) ho (by omega) (fun u2 r => ⟨r.ob, q_M_thrown r (an_tail (nx u2 (LI.nx a.1 r (by omega))) (fun q => OV.nx (a.2 q) r))⟩)⟩)⟩
      · exact ⟨v1, q_L_count hc (fun u1 a => ⟨v1, (LI.ref hr a.1).ob, q_M_count (LI.ref hr a.1) (fun u2 r => ⟨r.ob, q_M_thrown r (an_tail (nx u2 (LI.nx a.1 r (by omega))) (fun q => OV.nx (a.2 q) r))⟩)⟩)⟩
      · exact ⟨v1, v2, q_L_value hc (fun u1 a => ⟨v1, v2, (LI.ref hr a.1).ob, q_M_value (LI.ref hr a.1) (fun u2 r => ⟨r.ob, q_M_thrown r (an_tailb (G := fun y y2 => p_L_law_J1047 sL xs (p_L_law_L23 sL xs x0 sz (adM sz 0) (sz + 81) E175 E223 E295 E367 E439 E511 E599 E671 E722 E739 E778 E795 E811 E847 E864 E903 E920 E959 E976 E1027 E1051 E1090 E1107 E1146 E1163 E1214 E1238 E1301 E1318 E1357 E1374 E1385 (d + 1)) E175 E223 E295 E367 E439 E511 E599 E671 E722 E739 E778 E795 E811 E847 E864 E903 E920 E959 E976 E1027 E1051 E1090 E1107 E1146 E1163 E1214 E1238 E1301 E1318 E1357 E1374 E1385 x0 sz (adM sz 0) (sz + 81) (nI (5 * m)) y y2 u2) (sp_value_b _ _ _) (nx u2 (LI.nx a.1 r (by omega))) (fun y => ⟨fun _ => nx u2 (LI.nx a.1 r (by omega)), fun q => absurd (lg_same y) q⟩) (fun q => OV.nx (a.2 q) r))⟩)⟩)⟩
      · exact ⟨v1, q_L_least hc (fun u1 a => ⟨v1, (LI.ref hr a.1).ob, q_M_least (LI.ref hr a.1) (fun u2 r => ⟨r.ob, q_M_thrown r (an_tail (nx u2 (LI.nx a.1 r (by omega))) (fun q => OV.nx (a.2 q) r))⟩)⟩)⟩
      · exact ⟨v1, q_L_support hc (fun u1 a => ⟨v1, (LI.ref hr a.1).ob, q_M_support (LI.ref hr a.1) (fun u2 r => ⟨r.ob, q_M_thrown r (an_tail (nx u2 (LI.nx a.1 r (by omega))) (fun q => OV.nx (a.2 q) r))⟩)⟩)⟩
      · exact ⟨v1, v2, q_L_alike hc (fun u1 a => ⟨v1, v2, (LI.ref hr a.1).ob, q_M_alike (LI.ref hr a.1) (fun u2 r => ⟨r.ob, q_M_thrown r (an_tailb (G := fun y y2 => p_L_law_J1234 sL xs (p_L_law_L23 sL xs x0 sz (adM sz 0) (sz + 81) E175 E223 E295 E367 E439 E511 E599 E671 E722 E739 E778 E795 E811 E847 E864 E903 E920 E959 E976 E1027 E1051 E1090 E1107 E1146 E1163 E1214 E1238 E1301 E1318 E1357 E1374 E1385 (d + 1)) E175 E223 E295 E367 E439 E511 E599 E671 E722 E739 E778 E795 E811 E847 E864 E903 E920 E959 E976 E1027 E1051 E1090 E1107 E1146 E1163 E1214 E1238 E1301 E1318 E1357 E1374 E1385 x0 sz (adM sz 0) (sz + 81) (nI (5 * m)) y y2 u2) (sp_alike_b _ _ _) (nx u2 (LI.nx a.1 r (by omega))) (fun y => ⟨fun _ => nx u2 (LI.nx a.1 r (by omega)), fun q => absurd (lg_same y) q⟩) (fun q => OV.nx (a.2 q) r))⟩)⟩)⟩
      · exact ⟨v1, v2, v3, q_L_asked hc (fun u1 a => ⟨v1, v2, v3, (LI.ref hr a.1).ob, q_M_asked (LI.ref hr a.1) ho (fun u2 r => ⟨r.ob, q_M_thrown r (an_tail (nx u2 (LI.nx a.1 r (by omega))) (fun q => OV.nx (a.2 q) r))⟩)⟩)⟩
      · exact ⟨v1, q_L_questions hc (fun u1 a => ⟨v1, (LI.ref hr a.1).ob, q_M_questions (LI.ref hr a.1) ho (by omega) (fun u2 r => ⟨r.ob, q_M_thrown r (an_tail (nx u2 (LI.nx a.1 r (by omega))) (fun q => OV.nx (a.2 q) r))⟩)⟩)⟩
end LAW
theorem lw_room {sz s0 m : Nat} {u : PS} (h : LI sz s0 m u) (hm : m ≤ 513) (h0 : s0 ≤ 1000000) : u.2.1 ≤ sz + 601024 ∧ u.2.2 ≤ 7293034 := by
  obtain ⟨F, o, t, n, hc, hr, hn⟩ := h
  obtain ⟨_, n, R, L, Fd, rt, ad, S, I, ln, z, e, t, g, D, h0', hs, _, b⟩ := hc
  obtain ⟨⟨hv, ⟨a1, a2, ⟨b1, b2, b3, b4, b5, b6, b7⟩, a4, a5, a6, a7⟩, _⟩, _, _, _, _, _, ⟨⟨c1, c2, c3, c4, c5, _⟩, c6⟩, _⟩ := hs
  have e1 : 2 ^ e ≤ 2 ^ 14 := Nat.pow_le_pow_right (by decide) a2
  have e2 : 2 ^ t ≤ 2 ^ 14 := Nat.pow_le_pow_right (by decide) (by omega)
  have m0 := a5 0 (by decide)
  have m1 := a5 1 (by decide)
  have m2 := a5 2 (by decide)
  have m3 := a5 3 (by decide)
  have m4 := a5 4 (by decide)
  have m5 := a5 5 (by decide)
  have m6 := a5 6 (by decide)
  have m7 := a5 7 (by decide)
  have m8 := a5 8 (by decide)
  have m9 := a5 9 (by decide)
  obtain ⟨_, _, r1, r2⟩ := b
  dsimp only at r1 r2
  have q1 : u.2.1 = z.1 := by rw [hv.2.2.2.2]
  have q2 : u.2.2 = z.2 := by rw [hv.2.2.2.2]
  unfold gs at a6 a7
  simp only [Nat.reduceAdd] at m0 m1 m2 m3 m4 m5 m6 m7 m8 m9
  omega
set_option maxHeartbeats 4000000 in
theorem lw_pure (sL : Nat) (xs : Nat → Int32) (hL : sL ≤ 2560) (b sz : Nat) : p_L_law sL xs b (fun _ => none, sz, 0) (fun r u1 => r = 1 ∧ u1.2.1 ≤ sz + 601024 ∧ u1.2.2 ≤ 7293034) := by
  have h0 : CV sz 0 0 (fun _ => .inr (0, [])) ((fun _ => none, sz, 0) : PS) := ⟨all_0, rfl⟩
  unfold p_L_law
  refine h0.no 1 rfl (fun u2 k2 => ?_)
  refine q_H_init k2 rfl (fun u3 k3 => ?_)
  refine k3.no 70 rfl (fun u5 k5 => ?_)
  refine q_M_init k5 rfl (fun u6 k6 => ?_)
  refine k6.nl 1 82 rfl rfl (by decide) (fun u8 k8 => ⟨sL + 1, ?_⟩)
  have k9 := k8.cast (s' := 231914) (f' := _) (by simp only [List.length_cons, List.length_nil]) (fun _ _ => rfl)
  refine lw_loop (sz := sz) (s0 := 231914) hL (fun m u hm hi => ⟨Or.inr rfl, rfl, lw_room hi hm (by decide)⟩) sL 0 u8 (by omega) (by omega) ?_
  refine ⟨FF0, op 10, 0, 0, st_CS (f0 := va_up (fun _ => .inr (0, [])) 0 (.inr (5, [.null, .null]))) k9 (fun j hj => ?_) rfl, st_RM k9 ?_, Nat.zero_le _⟩
  · rw [up_ne _ _ (by omega)]
    unfold fM
    rw [if_pos hj, up_ne _ _ (by omega)]
  · repeat (refine all_t ?_ ?_; exact rfl)
    exact all_0
