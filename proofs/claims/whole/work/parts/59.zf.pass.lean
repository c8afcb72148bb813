/-! the order: takeOut(), putIn(), pass() -/
/-- mt holds all inputs that some function has with x -/
def MTS (F : Nat → Nat → Bool) (x mt : Nat) : Prop := mt < 1024 ∧ ∀ y : Nat, y < 10 → y ≠ x → mt.testBit y = false → ∀ p : Nat, p < 24 → ¬ (dep (fnOf (F p)) x ∧ dep (fnOf (F p)) y)
def B0 : Nat := 6400
section PSS
variable {L : Nat → Nat → Int64} {E : (Nat → Prop) × (Nat → Option PE)} {R : Nat × Nat} {o o' r : Nat → Nat} {F : Nat → Nat → Bool} {rt ad S : Nat → Nat} {I : Nat → Nat → Nat} {ln : Nat → Nat} {z : Nat × Nat} {u : PS} {e x pl to mt : Nat} {g : Nat → Nat} {D : Nat → Fn}
theorem q_D_takeOut_L (h : VC 69 ad S I ln L E z u) (l37 : ln 37 = 10) {k : Nat} (hk : k < 2 ^ 31) (hb : ∀ j : Nat, j < 10 → I 37 j < 10) {x1 : Nat} {X : Int32 → PS → Prop} : ∀ (d j : Nat), j + d = 9 → X (nI (scan (I 37) k d j)) u → p_D_takeOut_L7 x1 (nI k) (ad 37) X (d + 1) (nI j) u := by
  intro d
  induction d with
  | zero =>
    intro j hj hX
    obtain rfl : j = 9 := by omega
    rw [p_D_takeOut_L7]
    exact pk_le 9 9 (fun _ => hX) (fun w => absurd w (by omega))
  | succ d ih =>
    intro j hj hX
    rw [p_D_takeOut_L7]
    refine pk_le 9 j (fun w => absurd w (by omega)) (fun _ => ?_)
    have r37 := h.ia 37 (by decide) (ii (by decide)) (j := j) (by omega) (by omega)
    have b37 := hb j (by omega)
    refine ⟨_, r37, eqn (by omega) (by omega) (fun w => ?_) (fun w => nm_e ?_)⟩
    · have : scan (I 37) k (d + 1) j = j := by rw [scan, if_pos w]
      rw [this] at hX
      exact hX
    · rw [nI_1]
      refine ih (j + 1) (by omega) ?_
      have : scan (I 37) k (d + 1) j = scan (I 37) k d (j + 1) := by rw [scan, if_neg w]
      rw [this] at hX
      exact hX
theorem q_D_takeOut (h : VC 69 ad S I ln L E z u) (l37 : ln 37 = 10) (ho : PO o) (h37 : ∀ j : Nat, j < 10 → I 37 j = o j) {k : Nat} (hk : k < 10) {Q : PS → Prop} (hQ : ∀ (u' : PS) (f : Nat → Nat), VC 69 ad (va_up S 4 (posO o k)) (va_up I 37 f) ln L E z u' → (∀ j : Nat, j < 9 → f j = remO o (posO o k) j) → Q u') : p_D_takeOut (ad 2) (nI k) u Q := by
  have hsc : ∀ (d j : Nat), j + d = 9 → scan (I 37) k d j = scan o k d j := by
    intro d
    induction d with
    | zero => intro j _; rfl
    | succ d ih =>
      intro j hj
      rw [scan, scan, h37 j (by omega), ih (j + 1) (by omega)]
  obtain ⟨p1, p2⟩ := posO_spec ho hk
  unfold p_D_takeOut
  refine ⟨_, h.fD (by decide) rfl, 10, q_D_takeOut_L h l37 (by omega) (fun j hj => by rw [h37 j hj]; exact ho.1 j hj) 9 0 rfl ?_⟩
  rw [hsc 9 0 rfl, show scan o k 9 0 = posO o k from rfl]
  unfold p_D_takeOut_J26
  rw [nI_1, show (9 : Int32) = nI 9 from rfl, pk_sub (by omega)]
  obtain ⟨u1, s1, h1⟩ := h.cpx (i := 37) (j := 37) (s := posO o k + 1) (d := posO o k) (m := 9 - posO o k) (by decide) (ii (by decide)) (by decide) (ii (by decide)) (by omega) (by omega) (by omega) (by omega)
  obtain ⟨u2, s2, h2⟩ := h1.sD (by decide) 10 4 (posO o k) (by decide) rfl rfl rfl rfl
  refine ⟨u1, s1, u2, s2, hQ u2 _ h2 (fun j hj => ?_)⟩
  unfold va_cpy remO
  by_cases c : j < posO o k
  · rw [if_neg (by omega), if_pos c, h37 j (by omega)]
  · rw [if_pos (by omega), if_neg c, h37 _ (by omega)]
    congr 1
    omega
theorem q_D_putIn (h : VC 69 ad S I ln L E z u) (l37 : ln 37 = 10) (h37 : ∀ j : Nat, j < 9 → I 37 j = r j) {k : Nat} (ht : to < 10) {Q : PS → Prop} (hQ : ∀ (u' : PS) (f : Nat → Nat), VC 69 ad S (va_up I 37 f) ln L E z u' → (∀ j : Nat, j < 10 → f j = insO r to k j) → Q u') : p_D_putIn (ad 2) (nI k) (nI to) u Q := by
  unfold p_D_putIn
  rw [nI_1, show (9 : Int32) = nI 9 from rfl, pk_sub (by omega)]
  obtain ⟨u1, s1, h1⟩ := h.cpx (i := 37) (j := 37) (s := to) (d := to + 1) (m := 9 - to) (by decide) (ii (by decide)) (by decide) (ii (by decide)) (by omega) (by omega) (by omega) (by omega)
  obtain ⟨u2, s2, h2⟩ := h1.isx 37 (by decide) (ii (by decide)) (j := to) (by omega) (by omega) k
  rw [up_eq, bx_uu] at h2
  refine ⟨_, h.fD (by decide) rfl, _, h.fD (by decide) rfl, u1, s1, _, h1.fD (by decide) rfl, u2, s2, hQ u2 _ h2 (fun j hj => ?_)⟩
  unfold insO
  by_cases c : j = to
  · subst c; rw [up_eq, if_neg (by omega), if_pos rfl]
  · rw [up_ne _ _ c]
    unfold va_cpy
    by_cases c2 : j < to
    · rw [if_neg (by omega), if_pos c2, h37 j (by omega)]
    · rw [if_pos (by omega), if_neg c2, if_neg c, h37 _ (by omega)]
      congr 1
      omega
/-- inputs that no function has together pass one another -/
theorem NS.pass (h : NS L E R B0 o F rt ad S I ln z u e g D) (ho : PO o) {i : Nat} (hs : SW o o' i) (hn : ∀ p : Nat, p < 24 → ¬ (dep (fnOf (F p)) (o i) ∧ dep (fnOf (F p)) (o (i + 1)))) : NS L E R B0 o' F rt ad S I ln z u e g D := by
  obtain ⟨a1, a2, a3, a4, a5, a6⟩ := h
  refine ⟨a1, a2, a3, a4, ⟨hs.pass ho a5.1 (fun n hn2 hd => ?_), a5.2⟩, a6⟩
  obtain ⟨j, hj, ej⟩ := ho.sur (a5.1.k hn2)
  obtain ⟨p, hp, a, ea⟩ := a5.sound ho j n hj hn2 ej.symm
  rw [ea] at hd
  exact hn p hp ⟨fx_dep hd.1, fx_dep hd.2⟩
theorem tb_mate {v y : Nat} (hv : v < 1024) (hy : y < 10) : nI v >>> (nI y &&& 31) &&& 1 = bI (v.testBit y) := tb_nI (by omega) (by omega)
theorem q_D_pass_up (hr : PR9 r x) (hx : x < 10) (hm : MTS F x mt) (hto : to < 10) {S0 : Nat → Nat} {I0 : Nat → Nat → Nat} {ad0 ln0 : Nat → Nat} (l37 : ln0 37 = 10) (h37 : ∀ j : Nat, j < 9 → I0 37 j = r j) {X : PS → Prop} (hX : ∀ (u' : PS) (e' : Nat) (ad' S' : Nat → Nat) (I' : Nat → Nat → Nat) (ln' : Nat → Nat) (z' : Nat × Nat) (g' : Nat → Nat) (D' : Nat → Fn), NS L E R B0 (insO r to x) F rt ad' S' I' ln' z' u' e' g' D' → FG ad0 S0 I0 ln0 ad' S' I' ln' → X u') :
    ∀ (d i : Nat) (u : PS) (e : Nat) (ad S : Nat → Nat) (I : Nat → Nat → Nat) (ln : Nat → Nat) (z : Nat × Nat) (g : Nat → Nat) (D : Nat → Fn), i + d = to → NS L E R B0 (insO r i x) F rt ad S I ln z u e g D → FG ad0 S0 I0 ln0 ad S I ln → p_D_pass_L6 (ad0 2) (nI x) (nI to) (nI mt) X (d + 1) (nI i) u := by
  intro d
  induction d with
  | zero =>
    intro i u e ad S I ln z g D hi hns hf
    obtain rfl : i = to := by omega
    rw [p_D_pass_L6]
    exact pk_le i i (fun _ => hX u e ad S I ln z g D hns hf) (fun w => absurd w (by omega))
  | succ d ih =>
    intro i u e ad S I ln z g D hi hns hf
    have hns0 := hns
    obtain ⟨a1, a2, a3, a4, a5, a6⟩ := hns
    have E2 : ad 2 = ad0 2 := (hf.1 2 (by omega)).1
    have E37 : I 37 = I0 37 := (hf.1 37 (by omega)).2.2
    have l37' : ln 37 = 10 := by rw [(hf.1 37 (by omega)).2.1]; exact l37
    have hoc : PO (insO r i x) := insO_PO hr hx (by omega)
    have hs := ins_sw r x (show i < 9 by omega)
    rw [p_D_pass_L6, ← E2]
    refine pk_le to i (fun w => absurd w (by omega)) (fun _ => ?_)
    have r37 := a1.ia 37 (by decide) (ii (by decide)) (j := i) (by omega) (by omega)
    rw [E37, h37 i (by omega)] at r37
    have hy := hr.1 i (by omega)
    refine ⟨_, a1.fD (by decide) rfl, _, r37, ?_⟩
    rw [tb_mate hm.1 hy.1]
    have ex : insO r i x i = x := insO_at r i x
    have ey : insO r i x (i + 1) = r i := ins_s r x i
    cases hb : mt.testBit (r i)
    · refine ⟨fun _ => ?_, fun w => absurd w (by decide)⟩
      unfold p_D_pass_J41
      refine nm_e ?_
      rw [nI_1, E2]
      exact ih (i + 1) u e ad S I ln z g D (by omega) (hns0.pass hoc hs (fun p hp w => hm.2 (r i) hy.1 hy.2 hb p hp (by rw [ex, ey] at w; exact w))) hf
    · refine ⟨fun w => absurd rfl w, fun _ => ⟨_, a1.fD (by decide) rfl, a1.obN (by decide), ?_⟩⟩
      have hsz := hns0.size hoc
      have hqn := hns0.nq hoc (j := i) (by omega)
      have w1 := wh_le (F := F) hoc
      have w2 := qn_1536 (F := F) hoc (show i < 10 by omega)
      have k := q_N_change hns0 hs hoc (by unfold B0; omega) (by unfold B0; omega) (Q := fun u' => p_D_pass_J41 (p_D_pass_L6 (ad 2) (nI x) (nI to) (nI mt) X (d + 1)) X (ad 2) (nI x) (nI to) (nI mt) (nI i) u') (fun u' e' ad' S' I' ln' z' g' D' q1 q2 => ?_)
      · rw [ex, ey] at k
        exact k
      · unfold p_D_pass_J41
        refine nm_e ?_
        rw [nI_1, E2]
        exact ih (i + 1) u' e' ad' S' I' ln' z' g' D' (by omega) q1 (hf.tr q2)
theorem q_D_pass_dn (hr : PR9 r x) (hx : x < 10) (hm : MTS F x mt) (hto : to < 10) {S0 : Nat → Nat} {I0 : Nat → Nat → Nat} {ad0 ln0 : Nat → Nat} (l37 : ln0 37 = 10) (h37 : ∀ j : Nat, j < 9 → I0 37 j = r j) {X : PS → Prop} (hX : ∀ (u' : PS) (e' : Nat) (ad' S' : Nat → Nat) (I' : Nat → Nat → Nat) (ln' : Nat → Nat) (z' : Nat × Nat) (g' : Nat → Nat) (D' : Nat → Fn), NS L E R B0 (insO r to x) F rt ad' S' I' ln' z' u' e' g' D' → FG ad0 S0 I0 ln0 ad' S' I' ln' → X u') :
    ∀ (d i : Nat) (u : PS) (e : Nat) (ad S : Nat → Nat) (I : Nat → Nat → Nat) (ln : Nat → Nat) (z : Nat × Nat) (g : Nat → Nat) (D : Nat → Fn), i = to + d → i < 10 → NS L E R B0 (insO r i x) F rt ad S I ln z u e g D → FG ad0 S0 I0 ln0 ad S I ln → p_D_pass_L55 (ad0 2) (nI x) (nI to) (nI mt) X (d + 1) (nI i + (-1)) u := by
  intro d
  induction d with
  | zero =>
    intro i u e ad S I ln z g D hi hi9 hns hf
    obtain rfl : i = to := by omega
    rw [p_D_pass_L55]
    refine ⟨fun _ => hX u e ad S I ln z g D hns hf, fun w => absurd ?_ w⟩
    by_cases c : i = 0
    · subst c; decide
    · have ed : nI i + (-1 : Int32) = nI (i - 1) := by
        have := nI_dec (i - 1)
        rw [show i - 1 + 1 = i by omega] at this
        exact this
      rw [ed]
      exact nI_lt (by omega) (by omega)
  | succ d ih =>
    intro i u e ad S I ln z g D hi hi9 hns hf
    have hns0 := hns
    obtain ⟨a1, a2, a3, a4, a5, a6⟩ := hns
    have E2 : ad 2 = ad0 2 := (hf.1 2 (by omega)).1
    have E37 : I 37 = I0 37 := (hf.1 37 (by omega)).2.2
    have l37' : ln 37 = 10 := by rw [(hf.1 37 (by omega)).2.1]; exact l37
    have ed : nI i + (-1 : Int32) = nI (i - 1) := by
      have := nI_dec (i - 1)
      rw [show i - 1 + 1 = i by omega] at this
      exact this
    obtain ⟨k, rfl⟩ : ∃ k, i = k + 1 := ⟨i - 1, by omega⟩
    rw [show k + 1 - 1 = k by omega] at ed
    have hoc : PO (insO r (k + 1) x) := insO_PO hr hx (by omega)
    have hs := (ins_sw r x (show k < 9 by omega)).symm
    rw [ed, p_D_pass_L55, ← E2]
    refine pk_lt k to (fun w => absurd w (by omega)) (fun _ => ?_)
    have r37 := a1.ia 37 (by decide) (ii (by decide)) (j := k) (by omega) (by omega)
    rw [E37, h37 k (by omega)] at r37
    have hy := hr.1 k (by omega)
    refine ⟨_, a1.fD (by decide) rfl, _, r37, ?_⟩
    rw [tb_mate hm.1 hy.1]
    have ey : insO r (k + 1) x k = r k := ins_lt r x (by omega)
    have ex : insO r (k + 1) x (k + 1) = x := insO_at r (k + 1) x
    cases hb : mt.testBit (r k)
    · refine ⟨fun _ => ?_, fun w => absurd w (by decide)⟩
      unfold p_D_pass_J90
      refine nm_e ?_
      rw [E2]
      exact ih k u e ad S I ln z g D (by omega) (by omega) (hns0.pass hoc hs (fun p hp w => hm.2 (r k) hy.1 hy.2 hb p hp (by rw [ex, ey] at w; exact ⟨w.2, w.1⟩))) hf
    · refine ⟨fun w => absurd rfl w, fun _ => ⟨_, a1.fD (by decide) rfl, a1.obN (by decide), ?_⟩⟩
      have hsz := hns0.size hoc
      have hqn := hns0.nq hoc (j := k) (by omega)
      have w1 := wh_le (F := F) hoc
      have w2 := qn_1536 (F := F) hoc (show k < 10 by omega)
      have kk := q_N_change hns0 hs hoc (by unfold B0; omega) (by unfold B0; omega) (Q := fun u' => p_D_pass_J90 (p_D_pass_L55 (ad 2) (nI x) (nI to) (nI mt) X (d + 1)) X (ad 2) (nI x) (nI to) (nI mt) (nI k) u') (fun u' e' ad' S' I' ln' z' g' D' q1 q2 => ?_)
      · rw [ex, ey] at kk
        exact kk
      · unfold p_D_pass_J90
        refine nm_e ?_
        rw [E2]
        exact ih k u' e' ad' S' I' ln' z' g' D' (by omega) (by omega) q1 (hf.tr q2)
/-- x goes from its place to another -/
theorem q_D_pass (h : NS L E R B0 (insO r pl x) F rt ad S I ln z u e g D) (hr : PR9 r x) (hx : x < 10) (hm : MTS F x mt) (hto : to < 10) (hpl : pl < 10) (h4 : S 4 = pl) (l37 : ln 37 = 10) (h37 : ∀ j : Nat, j < 9 → I 37 j = r j) {Q : PS → Prop} (hQ : ∀ (u' : PS) (e' : Nat) (ad' S' : Nat → Nat) (I' : Nat → Nat → Nat) (ln' : Nat → Nat) (z' : Nat × Nat) (g' : Nat → Nat) (D' : Nat → Fn), NS L E R B0 (insO r to x) F rt ad' S' I' ln' z' u' e' g' D' → FG ad S I ln ad' S' I' ln' → Q u') : p_D_pass (ad 2) (nI x) (nI to) (nI mt) u Q := by
  unfold p_D_pass
  refine ⟨_, h.1.fD (by decide) rfl, ?_⟩
  rw [h4]
  by_cases c : pl ≤ to
  · refine ⟨to - pl + 1, q_D_pass_up hr hx hm hto l37 h37 (fun u1 e1 ad1 S1 I1 ln1 z1 g1 D1 q1 q2 => ?_) (to - pl) pl u e ad S I ln z g D (by omega) h (FG.rf ad S I ln)⟩
    unfold p_D_pass_J47
    have E2 : ad1 2 = ad 2 := (q2.1 2 (by omega)).1
    have S14 : S1 4 = pl := by rw [q2.2.1 4 (by omega)]; exact h4
    rw [← E2]
    refine ⟨_, q1.1.fD (by decide) rfl, nm_e ⟨1, ?_⟩⟩
    rw [p_D_pass_L55, S14]
    refine ⟨fun _ => hQ u1 e1 ad1 S1 I1 ln1 z1 g1 D1 q1 q2, fun w => absurd ?_ w⟩
    by_cases c0 : pl = 0
    · subst c0
      have e0 : nI 0 - (1 : Int32) = -1 := by decide
      rw [e0]
      exact Int32.lt_of_lt_of_le (b := 0) (by decide) (nI_le (a := 0) (b := to) (by omega) (by omega))
    · have e1 : nI pl - (1 : Int32) = nI (pl - 1) := pk_sub (b := 1) (by omega)
      rw [e1]
      exact nI_lt (by omega) (by omega)
  · refine ⟨1, ?_⟩
    rw [p_D_pass_L6]
    refine pk_le to pl (fun _ => ?_) (fun w => absurd w (by omega))
    unfold p_D_pass_J47
    refine ⟨_, h.1.fD (by decide) rfl, nm_e ⟨pl - to + 1, ?_⟩⟩
    rw [h4]
    have e1 : nI pl - (1 : Int32) = nI pl + (-1) := by rw [Int32.sub_eq_add_neg]
    rw [e1]
    exact q_D_pass_dn hr hx hm hto l37 h37 hQ (pl - to) pl u e ad S I ln z g D (by omega) hpl h (FG.rf ad S I ln)
end PSS
