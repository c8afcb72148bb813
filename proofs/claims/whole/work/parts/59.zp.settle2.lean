/-! Diagrams: moveTo(), settle() -/
def OS (L : Nat → Nat → Int64) (E : (Nat → Prop) × (Nat → Option PE)) (R : Nat × Nat) (F : Nat → Nat → Bool) (rt : Nat → Nat) (n : Nat) (o : Nat → Nat) (ad S : Nat → Nat) (I : Nat → Nat → Nat) (ln : Nat → Nat) (z : Nat × Nat) (u : PS) (e t : Nat) (g : Nat → Nat) (D : Nat → Fn) : Prop :=
  NS L E R B0 o F rt ad S I ln z u e g D ∧ (∀ j : Nat, j < 10 → I 37 j = o j) ∧ (ln 37 = 10 ∧ ln 39 = 10 ∧ ln 6 = 24) ∧ FB F S I ∧ (S 3 = 0 ∨ S 3 = 1) ∧ (S 3 = 1 → MOK F I) ∧ TSH ln t ∧ t ≤ e ∧ (∀ m : Nat, I 25 m ≤ S 14) ∧ S 14 ≤ n
section ST2
variable {L : Nat → Nat → Int64} {E : (Nat → Prop) × (Nat → Option PE)} {R : Nat × Nat} {o : Nat → Nat} {F : Nat → Nat → Bool} {rt ad S : Nat → Nat} {I : Nat → Nat → Nat} {ln : Nat → Nat} {z : Nat × Nat} {u : PS} {e t n : Nat} {g : Nat → Nat} {D : Nat → Fn}
theorem TSH.fg {ln' : Nat → Nat} {ad ad' S S' : Nat → Nat} {I I' : Nat → Nat → Nat} (h : TSH ln t) (k : FG ad S I ln ad' S' I' ln') : TSH ln' t := by
  obtain ⟨t0, t1, t2, t3, t4, t5, t6⟩ := h
  have q := fun i (hi : 24 ≤ i) => (k.1 i (by omega)).2.1
  exact ⟨t0, by rw [q 24 (by omega)]; exact t1, by rw [q 25 (by omega)]; exact t2, by rw [q 26 (by omega)]; exact t3, by rw [q 27 (by omega)]; exact t4, by rw [q 28 (by omega)]; exact t5, by rw [q 29 (by omega)]; exact t6⟩
theorem SH.ge {e e' : Nat} {z' : Nat × Nat} {S S' ln ln' : Nat → Nat} (h : SH R S ln z e) (h' : SH R S' ln' z' e') (hl : ln 7 ≤ ln' 7) : e ≤ e' := by
  rw [h.len n7, h'.len n7] at hl
  exact (Nat.pow_le_pow_iff_right (by decide)).mp hl
/-- an input that is not asked is used by no function -/
theorem NS.unused (h : NS L E R B0 o F rt ad S I ln z u e g D) (ho : PO o) {k : Nat} (hk : k < 10) (h0 : I 9 k = 0) : ∀ p : Nat, p < 24 → ¬ dep (fnOf (F p)) k := by
  intro p hp hd
  obtain ⟨j, hj, ej⟩ := ho.sur hk
  have q := h.nq ho hj
  rw [ej, h0] at q
  obtain ⟨m, _, hm⟩ := qn_cap (F := F) ho hj k
  have q2 : m = 0 := by
    have : qn (PR 0 24) F o j = m := by unfold qn; rw [ej]; exact cn_eq hm
    omega
  have := lvl_pos hp (by rw [← ej]; exact ho.bef_self hj) hd hm
  omega
theorem NS.used (h : NS L E R B0 o F rt ad S I ln z u e g D) (ho : PO o) {k : Nat} (hk : k < 10) (h0 : I 9 k ≠ 0) : ∃ p : Nat, p < 24 ∧ dep (fnOf (F p)) k := by
  obtain ⟨a1, a2, a3, a4, a5, a6⟩ := h
  have w := a3.2.2.2.2.2.2.1.1 k 0 hk (by omega)
  dsimp only at w
  obtain ⟨j, hj, ej⟩ := ho.sur hk
  obtain ⟨p, hp, a, ea⟩ := a5.sound ho j _ hj w.1.1 (by rw [ej]; exact w.2.1)
  refine ⟨p, hp, ?_⟩
  have hd := a5.1.dp w.1.1
  rw [w.2.1, ea] at hd
  exact fx_dep hd
theorem q_D_moveTo (h : OS L E R F rt n o ad S I ln z u e t g D) (ho : PO o) {k to : Nat} (hk : k < 10) (ht : to < 10) {Q : PS → Prop} (hQ : ∀ (u' : PS) (e' : Nat) (ad' S' : Nat → Nat) (I' : Nat → Nat → Nat) (ln' : Nat → Nat) (z' : Nat × Nat) (g' : Nat → Nat) (D' : Nat → Fn), OS L E R F rt n (mvO o k to) ad' S' I' ln' z' u' e' t g' D' → FSD ad S I ln ad' S' I' ln' → Q u') : p_D_moveTo (ad 2) (nI k) (nI to) u Q := by
  obtain ⟨ns, h37, ⟨l37, l39, l6⟩, fb, h3, hmo, ts, hte, hm1, hm2⟩ := h
  obtain ⟨p1, p2⟩ := posO_spec ho hk
  have hr := remO_PR9 ho hk
  have hins : insO (remO o (posO o k)) (posO o k) k = o := mvO_self ho hk
  have l9 : ln 9 = 10 := ns.2.1.2.2.1.2.2.1
  unfold p_D_moveTo
  refine ⟨ns.1.obD (by decide), q_D_takeOut ns.1 l37 ho h37 hk (fun u1 f h1 hf => ?_)⟩
  have ns1 : NS L E R B0 o F rt ad (va_up S 4 (posO o k)) (va_up I 37 f) ln z u1 e g D := ns.put h1 (fun s _ _ => up_ne _ _ (by omega)) (fun i _ _ => up_ne _ _ (by omega))
  have fr1 : FSD ad S I ln ad (va_up S 4 (posO o k)) (va_up I 37 f) ln := ⟨fun _ _ => ⟨rfl, rfl⟩, fun i hi => up_ne _ _ (by omega), fun s hs => up_ne _ _ (by omega), fun b hb m => hb m⟩
  have J27 : ∀ (u2 : PS) (e2 : Nat) (ad2 S2 : Nat → Nat) (I2 : Nat → Nat → Nat) (ln2 : Nat → Nat) (z2 : Nat × Nat) (g2 : Nat → Nat) (D2 : Nat → Fn), NS L E R B0 (insO (remO o (posO o k)) to k) F rt ad2 S2 I2 ln2 z2 u2 e2 g2 D2 → FSD ad S I ln ad2 S2 I2 ln2 → (∀ j : Nat, j < 9 → I2 37 j = remO o (posO o k) j) → (S2 3 = 0 ∨ S2 3 = 1) → (S2 3 = 1 → MOK F I2) → TSH ln2 t → t ≤ e2 → (∀ m : Nat, I2 25 m ≤ S2 14) → S2 14 ≤ n → p_D_moveTo_J27 Q (ad 2) (nI k) (nI to) u2 := by
    intro u2 e2 ad2 S2 I2 ln2 z2 g2 D2 q1 q2 q3 q4 q5 q6 q7 q8 q9
    have E2 : ad2 2 = ad 2 := (q2.1 2 (by omega)).1
    have l37' : ln2 37 = 10 := by rw [(q2.1 37 (by omega)).2]; exact l37
    unfold p_D_moveTo_J27
    rw [← E2]
    refine ⟨q1.1.obD (by decide), q_D_putIn q1.1 l37' q3 ht (fun u3 f3 v1 v2 => ?_)⟩
    refine hQ u3 e2 ad2 S2 (va_up I2 37 f3) ln2 z2 g2 D2 ⟨q1.put v1 (fun _ _ _ => rfl) (fun i _ _ => up_ne _ _ (by omega)), fun j hj => by rw [up_eq]; exact v2 j hj, ⟨l37', by rw [(q2.1 39 (by omega)).2]; exact l39, by rw [(q2.1 6 (by omega)).2]; exact l6⟩, ?_, q4, q5, q6, q7, q8, q9⟩ (q2.tr ⟨fun _ _ => ⟨rfl, rfl⟩, fun i hi => up_ne _ _ (by omega), fun _ _ => rfl, fun _ hb => hb⟩)
    exact (fb.fr q2).fr (ad := ad2) (ln := ln2) (ad' := ad2) (ln' := ln2) ⟨fun _ _ => ⟨rfl, rfl⟩, fun i hi => up_ne _ _ (by omega), fun _ _ => rfl, fun _ hb => hb⟩
  refine ⟨_, h1.fD (by decide) rfl, h1.obN (by decide), q_N_asksFor h1 l9 hk ?_⟩
  rw [up_ne I _ (show (9 : Nat) ≠ 37 by decide)]
  have a9 : I 9 k ≤ 16384 := MBR.le ns.2.2.1.2.2.2.2.2.2.1 (N := 16384) (fun m hm => by have := ns.2.2.1.2.2.1 m hm.1; have := ns.2.2.1.2.2.2.1; have := ns.2.1.le; omega) hk
  refine pk_le (I 9 k) 0 (fun w => ?_) (fun w => ?_)
  · have hun := ns.unused ho hk (by omega)
    refine J27 u1 e ad _ _ ln z g D (NS.slide2 hr hk (fun y _ _ p hp w2 => hun p hp w2.1) p1 ht (by rw [hins]; exact ns1)) fr1 (fun j hj => by rw [up_eq]; exact hf j hj) (by rw [up_ne _ _ (by decide)]; exact h3) (fun q => ?_) ts hte hm1 hm2
    rw [up_ne _ _ (by decide)] at q
    exact hmo q
  · refine ⟨h1.obD (by decide), q_D_matesOf h1 l39 l6 (fb.fr fr1) h3 hmo hk (fun u2 S2 I2 q1 q2 q3 q4 q5 => ⟨q1.obD (by decide), ?_⟩)⟩
    have ns2 : NS L E R B0 (insO (remO o (posO o k)) (posO o k) k) F rt ad S2 I2 ln z u2 e g D := by
      rw [hins]
      exact ns1.put q1 (fun s _ _ => q4 s (by omega)) (fun i _ _ => q5 i (by omega))
    have fr2 : FSD ad S I ln ad S2 I2 ln := fr1.tr ⟨fun _ _ => ⟨rfl, rfl⟩, fun i hi => q5 i (by omega), fun s hs => q4 s (by omega), fun b hb m => by rw [q5 13 (by decide)]; exact hb m⟩
    have r37 : ∀ j : Nat, j < 9 → I2 37 j = remO o (posO o k) j := fun j hj => by rw [q5 37 (by decide), up_eq]; exact hf j hj
    refine q_D_pass ns2 hr hk (q3.s hk).1 ht p1 (by rw [q4 4 (by decide), up_eq]) l37 r37 (fun u3 e3 ad3 S3 I3 ln3 z3 g3 D3 w1 w2 => ?_)
    have e3e : e ≤ e3 := by
      exact SH.ge ns.2.1 w1.2.1 w2.2.2.2
    refine J27 u3 e3 ad3 S3 I3 ln3 z3 g3 D3 w1 (fr2.tr (FSD.fg w2)) (fun j hj => by rw [(w2.1 37 (by omega)).2.2]; exact r37 j hj) (by rw [w2.2.1 3 (by omega)]; exact Or.inr q2) (fun _ => ?_) (ts.fg w2) (by omega) (fun m => ?_) ?_
    · have := q3
      unfold MOK at this ⊢
      rw [(w2.1 39 (by omega)).2.2]
      exact this
    · rw [(w2.1 25 (by omega)).2.2, w2.2.1 14 (by omega), q5 25 (by decide), q4 14 (by decide)]
      exact hm1 m
    · rw [w2.2.1 14 (by omega), q4 14 (by decide)]
      exact hm2
end ST2
