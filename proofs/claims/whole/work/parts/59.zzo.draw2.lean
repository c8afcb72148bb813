/-! Diagrams: draw() -/
section DRW2
variable {L : Nat → Nat → Int64} {E : (Nat → Prop) × (Nat → Option PE)} {R n : Nat × Nat} {e t : Nat} {o rt : Nat → Nat} {ad S : Nat → Nat} {I : Nat → Nat → Nat} {ln : Nat → Nat} {z : Nat × Nat} {u : PS} {g : Nat → Nat} {D : Nat → Fn} {F Fd : Nat → Nat → Bool}
theorem MOK.same {I' : Nat → Nat → Nat} (h : MOK F I) (e : I' 39 = I 39) : MOK F I' := fun k hk => by rw [e]; exact h k hk
theorem q_draw_L7 {pm c2 : Nat} (hpm : pm < 2 ^ 24) {ad0 : Nat → Nat} {X : PS → Prop} (hX : ∀ (u' : PS) (L' : Nat → Nat → Int64) (Fd' : Nat → Nat → Bool) (e' : Nat) (rt' ad' S' : Nat → Nat) (I' : Nat → Nat → Nat) (ln' : Nat → Nat) (z' : Nat × Nat) (g' : Nat → Nat) (D' : Nat → Fn), HS n L' E R F Fd' o rt' ad' S' I' ln' z' u' e' t g' D' → S' 2 = c2 → (∀ p : Nat, p < 24 → (c2.testBit p = false ∨ (c2 &&& pm).testBit p = true) → fnOf (Fd' p) = fnOf (F p) ∧ (S' 0).testBit p = true) → (∀ i : Nat, ¬ (7 ≤ i ∧ i < 24) → ad' i = ad0 i) → X u') :
    ∀ (d rest : Nat) (u : PS) (L : Nat → Nat → Int64) (Fd : Nat → Nat → Bool) (e : Nat) (rt ad S : Nat → Nat) (I : Nat → Nat → Nat) (ln : Nat → Nat) (z : Nat × Nat) (g : Nat → Nat) (D : Nat → Fn), rest < d → rest < 2 ^ 24 → HS n L E R F Fd o rt ad S I ln z u e t g D → S 2 = c2 → (∀ p : Nat, rest.testBit p = true → (c2 &&& pm).testBit p = true) → (∀ p : Nat, p < 24 → (c2.testBit p = false ∨ ((c2 &&& pm).testBit p = true ∧ rest.testBit p = false)) → fnOf (Fd p) = fnOf (F p) ∧ (S 0).testBit p = true) → (∀ i : Nat, ¬ (7 ≤ i ∧ i < 24) → ad i = ad0 i) → p_D_draw_L7 (ad0 2) (nI pm) X d (nI rest) u := by
  intro d
  induction d with
  | zero => intro rest u L Fd e rt ad S I ln z g D h1; exact absurd h1 (by omega)
  | succ d ih =>
    intro rest u L Fd e rt ad S I ln z g D h1 h2 hs s2 hsub hw had
    rw [p_D_draw_L7]
    by_cases c0 : rest = 0
    · refine br_t (by rw [c0]; rfl) (hX u L Fd e rt ad S I ln z g D hs s2 (fun p hp q => hw p hp ?_) had)
      rcases q with q | q
      · exact Or.inl q
      · exact Or.inr ⟨q, by rw [c0]; exact Nat.zero_testBit _⟩
    · refine br_f (fun w => c0 ((nI_0I (by omega)).mp w)) ?_
      obtain ⟨p, hl⟩ := LB.ex rest (by omega)
      have hp : p < 24 := hl.lt h2
      obtain ⟨ns, fk, ⟨h37, h38⟩, lns, ho, ⟨h3, hmok⟩, ⟨ts, te⟩, ⟨m1, m2⟩, ⟨k1, k2⟩⟩ := hs
      have lns0 := lns
      obtain ⟨a1, a2, a3, a4, a5, a6, a7, a8, a9, a10, a11, a12⟩ := lns
      rw [← had 2 (by omega)]
      refine q_ntz hl (by omega) ⟨_, ns.1.fD (by decide) rfl, _, ns.1.fD (by decide) rfl, ns.1.obG (by decide), q_G_rootOf ns ho fk hp a1 a2 a3 a4 a5 a6 a7 a8 a9 h37 (fun u1 m e1 ad1 S1 I1 ln1 z1 g1 D1 L1 v1 v2 v3 v4 v5 v6 v7 => ?_)⟩
      have ea : ad1 2 = ad 2 := (v7.1 2 (by omega)).1
      rw [← ea]
      refine q_D_reroot (F := F) (Fd := Fd) (X := fun (u_16 : PS) => ∀ x2_17 : Int32, x2_17 = (nI rest &&& (nI rest - (1 : Int32))) → ((p_D_draw_L7 (ad1 2) (nI pm) X d) x2_17 u_16)) ho ns.2.2.2.2.1 hp v1 v2 v3 (by rw [(v7.1 38 (by omega)).2]; exact a10) (fun q hq => by rw [v7.2.1 38 (by omega) (by omega) (by omega)]; exact h38 q hq) (fun u2 S2 I2 g2 w1 w2 w3 => nm_e ?_)
      rw [nI_drop hl, ea, had 2 (by omega)]
      have s0 : S2 0 = S1 0 := w3.2.1 0 (by decide) (by decide) (by decide)
      have sS : ∀ s : Nat, 2 ≤ s → ¬ (7 ≤ s ∧ s < 11) → S2 s = S s := fun s q1 q2 => by rw [w3.2.1 s (by omega) (by omega) (by omega)]; exact v7.2.2.1 s q1 q2
      have iI : ∀ i : Nat, 24 ≤ i → ¬ (30 ≤ i ∧ i < 37) → i ≠ 38 → I2 i = I i := fun i q1 q2 q3 => by rw [w3.1 i (by omega), up_ne _ _ q3]; exact v7.2.1 i (by omega) (by omega) q2
      have i6 : I2 6 = I1 6 := by rw [w3.1 6 (by omega), up_ne _ _ (by decide)]
      have le7 := v7.2.2.2.2.1
      have ee : e ≤ e1 := ns.2.1.ge w1.2.1 le7
      refine ih (setb rest p false) u2 L1 (upF Fd p (F p)) e1 (va_up rt p m) ad1 S2 I2 ln1 z1 g2 D1 (by have := setb_drop_lt hl; omega) (setb_lt _ h2 hp) ⟨w1, v4.same s0 (w3.2.1 1 (by decide) (by decide) (by decide)) i6 (fun _ _ => rfl), ⟨fun j hj => by rw [iI 37 (by omega) (by omega) (by omega)]; exact h37 j hj, w2⟩, lns0.fx v7, ho, ⟨by rw [sS 3 (by omega) (by omega)]; exact h3, fun w => (hmok (by rw [← sS 3 (by omega) (by omega)]; exact w)).same (iI 39 (by omega) (by omega) (by omega))⟩, ⟨ts.fx v7, by omega⟩, ⟨by rw [iI 25 (by omega) (by omega) (by omega), sS 14 (by omega) (by omega)]; exact m1, by rw [sS 14 (by omega) (by omega)]; exact m2⟩, ⟨fun k => ?_, by rw [sS 11 (by omega) (by omega)]; exact k2⟩⟩ (by rw [sS 2 (by omega) (by omega)]; exact s2) (fun q hq => ?_) (fun q hq hq2 => ?_) (fun i hi => by rw [(v7.1 i hi).1]; exact had i hi)
      · rw [w3.2.2, up_ne _ _ (by decide), sS 11 (by omega) (by omega)]
        exact v7.2.2.2.1 _ k1 k
      · rw [tb_setb] at hq
        by_cases c : q = p
        · rw [if_pos c] at hq; exact absurd hq (by decide)
        · rw [if_neg c] at hq; exact hsub q hq
      · by_cases c : q = p
        · subst c
          rw [upF_s]
          exact ⟨rfl, by rw [s0]; exact v6⟩
        · rw [tb_setb, if_neg c] at hq2
          have := hw q hq hq2
          rw [upF_n _ _ c]
          exact ⟨this.1, by rw [s0, v7.2.2.2.2.2 q c]; exact this.2⟩
theorem HS.s2 (h : HS n L E R F Fd o rt ad S I ln z u e t g D) {x : Nat} {u' : PS} (hv : VC 69 ad (va_up S 2 x) I ln L E z u') : HS n L E R F Fd o rt ad (va_up S 2 x) I ln z u' e t g D := by
  obtain ⟨ns, fk, h3, lns, ho, h5, h6, h7, h8⟩ := h
  exact ⟨ns.put hv (fun s q1 q2 => up_ne _ _ (by omega)) (fun _ _ _ => rfl), fk.same (up_ne _ _ (by decide)) (up_ne _ _ (by decide)) rfl (fun _ _ => rfl), h3, lns, ho, by rw [up_ne _ _ (by decide)]; exact h5, h6, by rw [up_ne _ _ (by decide)]; exact h7, by rw [up_ne _ _ (by decide)]; exact h8⟩
theorem q_D_draw (h : HS n L E R F Fd o rt ad S I ln z u e t g D) (ch : CHG F Fd S) {pm : Nat} (hpm : pm < 2 ^ 24) {K : PS → Prop} (hK : ∀ (u' : PS) (L' : Nat → Nat → Int64) (Fd' : Nat → Nat → Bool) (e' : Nat) (rt' ad' S' : Nat → Nat) (I' : Nat → Nat → Nat) (ln' : Nat → Nat) (z' : Nat × Nat) (g' : Nat → Nat) (D' : Nat → Fn), HS n L' E R F Fd' o rt' ad' S' I' ln' z' u' e' t g' D' → CHG F Fd' S' → (∀ p : Nat, p < 24 → pm.testBit p = true → (S' 2).testBit p = false) → (∀ i : Nat, ¬ (7 ≤ i ∧ i < 24) → ad' i = ad i) → K u') : p_D_draw (ad 2) (nI pm) u K := by
  have c2 := ch.1
  have l2 : S 2 &&& pm < 2 ^ 24 := Nat.lt_of_le_of_lt Nat.and_le_left c2
  unfold p_D_draw
  refine ⟨_, h.1.1.fD (by decide) rfl, nm_e ⟨(S 2 &&& pm) + 1, ?_⟩⟩
  rw [nx_and]
  refine q_draw_L7 (pm := pm) (c2 := S 2) (ad0 := ad) hpm (fun u1 L1 Fd1 e1 rt1 ad1 S1 I1 ln1 z1 g1 D1 v1 v2 v3 v4 => ?_) _ (S 2 &&& pm) u L Fd e rt ad S I ln z g D (Nat.lt_succ_self _) l2 h rfl (fun p hp => hp) (fun p hp q => ?_) (fun _ _ => rfl)
  · unfold p_D_draw_J69
    rw [← v4 2 (by omega)]
    obtain ⟨u2, s2, k2⟩ := v1.1.1.sD (by decide) 6 2 (S 2 &&& (pm % 2 ^ 32 ^^^ (2 ^ 32 - 1))) (by decide) rfl rfl rfl rfl
    refine ⟨_, v1.1.1.fD (by decide) rfl, u2, ?_, hK u2 L1 Fd1 e1 rt1 ad1 _ I1 ln1 z1 g1 D1 (v1.s2 k2) ⟨?_, fun p hp hb => ?_⟩ (fun p hp hb => ?_) v4⟩
    · rw [v2, nx_not (by omega)]; exact s2
    · rw [up_eq]; exact Nat.lt_of_le_of_lt Nat.and_le_left c2
    · rw [up_eq, Nat.testBit_and, Nat.testBit_xor, Nat.mod_eq_of_lt (by omega), Nat.testBit_two_pow_sub_one, decide_eq_true (show p < 32 by omega), Bool.xor_true] at hb
      rw [up_ne _ _ (by decide)]
      refine v3 p hp ?_
      cases q1 : (S 2).testBit p
      · exact Or.inl rfl
      · rw [q1, Bool.true_and] at hb
        refine Or.inr ?_
        rw [Nat.testBit_and, q1, Bool.true_and]
        cases q2 : pm.testBit p
        · rw [q2] at hb; exact absurd hb (by decide)
        · rfl
    · rw [up_eq, Nat.testBit_and, Nat.testBit_xor, Nat.mod_eq_of_lt (by omega), Nat.testBit_two_pow_sub_one, decide_eq_true (show p < 32 by omega), Bool.xor_true, hb]
      simp
  · rcases q with q | ⟨q1, q2⟩
    · exact ch.2 p hp q
    · rw [q1] at q2; exact absurd q2 (by decide)
/-- all is drawn: the state of calls that change the order -/
theorem HS.os (h : HS n L E R F Fd o rt ad S I ln z u e t g D) (ch : CHG F Fd S) (h2 : ∀ p : Nat, p < 24 → (S 2).testBit p = false) : OS L E R F rt n.1 o ad S I ln z u e t g D := by
  obtain ⟨⟨a1, a2, a3, a4, ⟨a5, a5', a5''⟩, a6⟩, fk, ⟨h37, h38⟩, lns, ho, ⟨h3, h4⟩, ⟨ts, te⟩, ⟨m1, m2⟩, _⟩ := h
  have dr := fun p hp => ch.2 p hp (h2 p hp)
  have us : ∀ p : Nat, p < 24 → I 6 p < 1024 ∧ ∀ k : Nat, k < 10 → ((I 6 p).testBit k = true ↔ dep (fnOf (F p)) k) := fun p hp => by
    have fp := fk.1 p hp
    refine ⟨fp.1, fun k hk => ⟨fun q => (fk.2.2.2 p hp (dr p hp).2).1 k hk q, fun q => ?_⟩⟩
    cases w : (I 6 p).testBit k
    · exact absurd q (fp.2.1.nd hk w)
    · rfl
  refine ⟨⟨a1, a2, a3, a4, ⟨a5, fun p hp => ⟨(a5' p hp).1, by rw [(a5' p hp).2]; exact (dr p hp).1⟩, a5''⟩, a6⟩, h37, ⟨lns.2.2.2.2.2.2.2.2.1, lns.2.2.2.2.2.2.2.2.2.2.1, lns.1⟩, ⟨us, fk.2.2.1, fun p hp => ?_⟩, h3, h4, ts, te, m1, m2⟩
  rw [(fk.2.2.2 p hp (dr p hp).2).2, brd_iff (us p hp).1]
  constructor
  · rintro ⟨a, b, q1, q2, q3, q4, q5⟩
    exact ⟨a, b, q1, q2, q3, ((us p hp).2 a q1).mp q4, ((us p hp).2 b q2).mp q5⟩
  · rintro ⟨a, b, q1, q2, q3, q4, q5⟩
    exact ⟨a, b, q1, q2, q3, ((us p hp).2 a q1).mpr q4, ((us p hp).2 b q2).mpr q5⟩
end DRW2
