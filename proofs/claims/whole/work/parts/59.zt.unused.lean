/-! Diagrams: settleUnused() -/
def LBD (Rl : Nat → Nat → Prop) (P : Nat → Prop) (f : Nat → Nat) (c : Nat) : Prop := (∀ i : Nat, i < c → f i < 10 ∧ P (f i)) ∧ (∀ i j : Nat, i < j → j < c → Rl (f i) (f j)) ∧ ∀ a : Nat, a < 10 → P a → ∃ i : Nat, i < c ∧ f i = a
section LBDs
variable {kp om : Nat → Nat} {P : Nat → Prop} {f : Nat → Nat} {c : Nat}
theorem LBD.inj (h : LBD (REL kp om) P f c) {i j : Nat} (hi : i < c) (hj : j < c) (e : f i = f j) : i = j := by
  rcases Nat.lt_trichotomy i j with q | q | q
  · have := h.2.1 i j q hj
    rw [e] at this
    exact (this.asy this).elim
  · exact q
  · have := h.2.1 j i q hi
    rw [e] at this
    exact (this.asy this).elim
theorem LBD.le (h : LBD (REL kp om) P f c) : c ≤ 10 := by
  refine Classical.byContradiction (fun w => ?_)
  exact no_inj 10 c f (by omega) (fun i hi => (h.1 i hi).1) (fun i j hi hj e => h.inj hi hj e)
theorem LBD.lt (h : LBD (REL kp om) P f c) {a : Nat} (ha : a < 10) (hp : ¬ P a) : c < 10 := by
  refine Classical.byContradiction (fun w => ?_)
  refine no_inj 10 (c + 1) (fun i => if i < c then f i else a) (by omega) (fun i hi => ?_) (fun i j hi hj e => ?_)
  · show (if i < c then f i else a) < 10
    split
    · exact (h.1 i (by assumption)).1
    · exact ha
  · have e : (if i < c then f i else a) = (if j < c then f j else a) := e
    by_cases q : i < c <;> by_cases q2 : j < c
    · rw [if_pos q, if_pos q2] at e; exact h.inj q q2 e
    · rw [if_pos q, if_neg q2] at e; exact absurd (e ▸ (h.1 i q).2) hp
    · rw [if_neg q, if_pos q2] at e; exact absurd (e ▸ (h.1 j q2).2) hp
    · omega
theorem LBD.add (h : LBD (REL kp om) P f c) {a : Nat} (ha : a < 10) (hp : ¬ P a) (hr : ∀ b : Nat, b < 10 → P b → REL kp om b a) {P' : Nat → Prop} (hP : ∀ b : Nat, b < 10 → (P' b ↔ P b ∨ b = a)) : LBD (REL kp om) P' (va_up f c a) (c + 1) := by
  refine ⟨fun i hi => ?_, fun i j hij hj => ?_, fun b hb hpb => ?_⟩
  · by_cases q : i = c
    · subst q; rw [up_eq]; exact ⟨ha, (hP a ha).mpr (Or.inr rfl)⟩
    · rw [up_ne _ _ q]
      have := h.1 i (by omega)
      exact ⟨this.1, (hP _ this.1).mpr (Or.inl this.2)⟩
  · rw [up_ne _ _ (show i ≠ c by omega)]
    have := h.1 i (by omega)
    by_cases q : j = c
    · subst q; rw [up_eq]; exact hr _ this.1 this.2
    · rw [up_ne _ _ q]; exact h.2.1 i j hij (by omega)
  · rcases (hP b hb).mp hpb with w | w
    · obtain ⟨i, hi, e⟩ := h.2.2 b hb w
      exact ⟨i, by omega, by rw [up_ne _ _ (by omega)]; exact e⟩
    · exact ⟨c, by omega, by rw [up_eq, w]⟩
theorem LBD.same (h : LBD (REL kp om) P f c) {P' : Nat → Prop} (hP : ∀ b : Nat, b < 10 → (P' b ↔ P b)) : LBD (REL kp om) P' f c :=
  ⟨fun i hi => ⟨(h.1 i hi).1, (hP _ (h.1 i hi).1).mpr (h.1 i hi).2⟩, h.2.1, fun a ha hp => h.2.2 a ha ((hP a ha).mp hp)⟩
theorem LBD.full (h : LBD (REL kp om) P f c) (hP : ∀ a : Nat, a < 10 → P a) : c = 10 ∧ PO f := by
  have hle := h.le
  have e : c = 10 := by
    refine Classical.byContradiction (fun w => ?_)
    have ch : ∀ k : Nat, ∃ i : Nat, k < 10 → i < c ∧ f i = k := fun k => by
      by_cases hk : k < 10
      · obtain ⟨i, hi⟩ := h.2.2 k hk (hP k hk)
        exact ⟨i, fun _ => hi⟩
      · exact ⟨0, fun q => absurd q hk⟩
    refine no_inj c 10 (fun k => Classical.choose (ch k)) (by omega) (fun k hk => (Classical.choose_spec (ch k) hk).1) (fun k l hk hl e => ?_)
    have e1 := (Classical.choose_spec (ch k) hk).2
    have e2 := (Classical.choose_spec (ch l) hl).2
    have e : Classical.choose (ch k) = Classical.choose (ch l) := e
    rw [← e1, ← e2, e]
  subst e
  exact ⟨rfl, fun i hi => (h.1 i hi).1, fun i j hi hj e => h.inj hi hj e⟩
end LBDs
section UNU
variable {L : Nat → Nat → Int64} {E : (Nat → Prop) × (Nat → Option PE)} {ad S : Nat → Nat} {I : Nat → Nat → Nat} {ln : Nat → Nat} {z : Nat × Nat} {om : Nat → Nat}
theorem q_D_settleUnused {u : PS} (h : VC 69 ad S I ln L E z u) (l9 : ln 9 = 10) (l37 : ln 37 = 10) (l40 : ln 40 = 10) (hb : ∀ a : Nat, a < 10 → I 9 a < 2 ^ 31) (ho : PO om) (h37 : ∀ j : Nat, j < 10 → I 37 j = om j) {Q : PS → Prop} (hQ : ∀ (u' : PS) (f f2 : Nat → Nat), VC 69 ad S (va_up (va_up I 40 f) 37 f2) ln L E z u' → PO f → (∀ j : Nat, j < 10 → f2 j = f j) → (∀ i j : Nat, i < j → j < 10 → REL (I 9) om (f i) (f j)) → Q u') : p_D_settleUnused (ad 2) u Q := by
  have L38 : ∀ (d i c : Nat) (u : PS) (f : Nat → Nat), i + d = 10 → VC 69 ad S (va_up I 40 f) ln L E z u → LBD (REL (I 9) om) (fun b => I 9 b = 0 ∨ posO om b < i) f c → p_D_settleUnused_L38 (ad 2) (fun u_23 => p_D_settleUnused_J81 Q (ad 2) u_23) (d + 1) (nI c) (nI i) u := by
    intro d
    induction d with
    | zero =>
      intro i c u f hi h hl
      obtain rfl : i = 10 := by omega
      rw [p_D_settleUnused_L38]
      refine pk_le 10 10 (fun _ => ?_) (fun w => absurd w (by omega))
      obtain ⟨rfl, hf⟩ := hl.full (fun a ha => Or.inr (posO_spec ho ha).1)
      unfold p_D_settleUnused_J81
      obtain ⟨u1, s1, v1⟩ := h.cpx (i := 40) (j := 37) (s := 0) (d := 0) (m := 10) (by decide) (ii (by decide)) (by decide) (ii (by decide)) (by omega) (by omega) (by omega) (by omega)
      rw [up_eq] at v1
      exact ⟨_, h.fD (by decide) rfl, _, h.fD (by decide) rfl, u1, s1, hQ u1 f _ v1 hf (fun j hj => cpy_lt hj) hl.2.1⟩
    | succ d ih =>
      intro i c u f hi h hl
      rw [p_D_settleUnused_L38]
      refine pk_le 10 i (fun w => absurd w (by omega)) (fun _ => ?_)
      have oi := ho.1 i (by omega)
      have r37 := h.ia 37 (by decide) (ii (by decide)) (j := i) (by omega) (by omega)
      rw [up_ne I _ (show (37 : Nat) ≠ 40 by decide), h37 i (by omega)] at r37
      have b1 := hb (om i) oi
      refine ⟨_, h.fD (by decide) rfl, _, h.fD (by decide) rfl, _, r37, h.obN (by decide), q_N_asksFor h l9 oi ?_⟩
      rw [up_ne I _ (show (9 : Nat) ≠ 40 by decide)]
      have pi : posO om (om i) = i := posO_eq ho (by omega) rfl
      have step : ∀ b : Nat, b < 10 → (posO om b < i + 1 ↔ posO om b < i ∨ b = om i) := fun b hb2 => by
        obtain ⟨q1, q2⟩ := posO_spec ho hb2
        constructor
        · intro w
          by_cases e : posO om b = i
          · exact Or.inr (by rw [← q2, e])
          · exact Or.inl (by omega)
        · rintro (w | w)
          · omega
          · rw [w, pi]; omega
      refine pk_le (I 9 (om i)) 0 (fun w => ?_) (fun w => ?_)
      · unfold p_D_settleUnused_J75
        refine nm_e ?_
        rw [nI_1]
        refine ih (i + 1) c u f (by omega) h (hl.same (fun b hb2 => ?_))
        rw [step b hb2]
        constructor
        · rintro (q | q | q)
          · exact Or.inl q
          · exact Or.inr q
          · exact Or.inl (by rw [q]; omega)
        · rintro (q | q)
          · exact Or.inl q
          · exact Or.inr (Or.inl q)
      · have hnp : ¬ (I 9 (om i) = 0 ∨ posO om (om i) < i) := fun q => by rw [pi] at q; omega
        have hc10 := hl.lt oi hnp
        obtain ⟨u1, s1, v1⟩ := h.isx 40 (by decide) (ii (by decide)) (j := c) (by omega) (by omega) (om i)
        rw [up_eq, bx_uu] at v1
        refine ⟨_, h.fD (by decide) rfl, _, h.fD (by decide) rfl, _, r37, u1, s1, nm_e ?_⟩
        unfold p_D_settleUnused_J75
        refine nm_e ?_
        rw [nI_1, nI_1]
        refine ih (i + 1) (c + 1) u1 _ (by omega) v1 (hl.add oi hnp (fun b hb2 hpb => ?_) (fun b hb2 => ?_))
        · by_cases q : I 9 b = 0
          · exact Or.inl ⟨q, by omega⟩
          · exact Or.inr (Or.inr ⟨q, by omega, by rw [pi]; exact hpb.resolve_left q⟩)
        · rw [step b hb2, or_assoc]
  have L5 : ∀ (k c : Nat) (u : PS) (f : Nat → Nat), k ≤ 10 → VC 69 ad S (va_up I 40 f) ln L E z u → LBD (REL (I 9) om) (fun b => I 9 b = 0 ∧ k ≤ b) f c → p_D_settleUnused_L5 (ad 2) (fun (y1_9 : Int32) (u_10 : PS) => (p_D_settleUnused_J36 Q (ad 2) y1_9 u_10)) (k + 1) (nI c) (nI k + (-1)) u := by
    intro k
    induction k with
    | zero =>
      intro c u f _ h hl
      rw [p_D_settleUnused_L5]
      refine ⟨fun _ => ?_, fun w => absurd (by decide) w⟩
      unfold p_D_settleUnused_J36
      refine ⟨11, L38 10 0 c u f (by omega) h (hl.same (fun b _ => ⟨fun q => q.elim (fun q => ⟨q, by omega⟩) (fun q => absurd q (by omega)), fun q => Or.inl q.1⟩))⟩
    | succ k ih =>
      intro c u f hk h hl
      have ed : nI (k + 1) + (-1 : Int32) = nI k := nI_dec k
      rw [ed, p_D_settleUnused_L5]
      refine ⟨fun w => absurd w (Int32.not_lt.mpr (nI_le (a := 0) (b := k) (by omega) (by omega))), fun _ => ?_⟩
      have b1 := hb k (by omega)
      refine ⟨_, h.fD (by decide) rfl, h.obN (by decide), q_N_asksFor h l9 (show k < 10 by omega) ?_⟩
      rw [up_ne I _ (show (9 : Nat) ≠ 40 by decide)]
      refine ⟨fun w => ?_, fun w => ?_⟩
      · have w0 : I 9 k ≠ 0 := fun q => w (by rw [q]; rfl)
        unfold p_D_settleUnused_J30
        refine nm_e ?_
        refine ih c u f (by omega) h (hl.same (fun b _ => ⟨fun q => ⟨q.1, ?_⟩, fun q => ⟨q.1, by omega⟩⟩))
        have : b ≠ k := fun e => w0 (by rw [← e]; exact q.1)
        omega
      · have w0 : I 9 k = 0 := (nI_0I (by omega)).mp w
        have hnp : ¬ (I 9 k = 0 ∧ k + 1 ≤ k) := fun q => by omega
        have hc10 := hl.lt (show k < 10 by omega) hnp
        obtain ⟨u1, s1, v1⟩ := h.isx 40 (by decide) (ii (by decide)) (j := c) (by omega) (by omega) k
        rw [up_eq, bx_uu] at v1
        refine ⟨_, h.fD (by decide) rfl, u1, s1, nm_e ?_⟩
        unfold p_D_settleUnused_J30
        refine nm_e ?_
        rw [nI_1]
        refine ih (c + 1) u1 _ (by omega) v1 (hl.add (show k < 10 by omega) hnp (fun b _ hpb => Or.inr (Or.inl ⟨hpb.1, w0, by omega⟩)) (fun b _ => ?_))
        constructor
        · rintro ⟨q1, q2⟩
          by_cases e : b = k
          · exact Or.inr e
          · exact Or.inl ⟨q1, by omega⟩
        · rintro (q | q)
          · exact ⟨q.1, by omega⟩
          · exact ⟨by rw [q]; exact w0, by omega⟩
  unfold p_D_settleUnused
  refine ⟨11, ?_⟩
  have e9 : (9 : Int32) = nI 10 + (-1) := by decide
  rw [e9]
  exact L5 10 0 u (I 40) (Nat.le_refl _) (by rw [up_id]; exact h) ⟨fun i hi => absurd hi (by omega), fun i j _ hj => absurd hj (by omega), fun a ha q => absurd q.2 (by omega)⟩
end UNU
