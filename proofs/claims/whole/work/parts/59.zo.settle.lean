/-! Diagrams: matesOf(), moveTo(), settle() -/
/-- what the functions use, as it is known when all is drawn -/
def FB (F : Nat → Nat → Bool) (S : Nat → Nat) (I : Nat → Nat → Nat) : Prop := (∀ p : Nat, p < 24 → I 6 p < 1024 ∧ ∀ k : Nat, k < 10 → ((I 6 p).testBit k = true ↔ dep (fnOf (F p)) k)) ∧ S 1 < 2 ^ 24 ∧ ∀ p : Nat, p < 24 → ((S 1).testBit p = true ↔ ∃ a b : Nat, a < 10 ∧ b < 10 ∧ a ≠ b ∧ dep (fnOf (F p)) a ∧ dep (fnOf (F p)) b)
def MOK (F : Nat → Nat → Bool) (I : Nat → Nat → Nat) : Prop := ∀ k : Nat, k < 10 → I 39 k < 1024 ∧ ∀ y : Nat, y < 10 → ((I 39 k).testBit y = true ↔ ∃ p : Nat, p < 24 ∧ (∃ a b : Nat, a < 10 ∧ b < 10 ∧ a ≠ b ∧ dep (fnOf (F p)) a ∧ dep (fnOf (F p)) b) ∧ dep (fnOf (F p)) k ∧ dep (fnOf (F p)) y)
theorem MOK.s {F : Nat → Nat → Bool} {I : Nat → Nat → Nat} (h : MOK F I) {k : Nat} (hk : k < 10) : MTS F k (I 39 k) ∧ MTT F (I 39 k) := by
  obtain ⟨h1, h2⟩ := h k hk
  refine ⟨⟨h1, fun y hy hne hb p hp hd => ?_⟩, fun y hy hb => ?_⟩
  · have := (h2 y hy).mpr ⟨p, hp, ⟨k, y, hk, hy, Ne.symm hne, hd.1, hd.2⟩, hd.1, hd.2⟩
    rw [hb] at this
    exact absurd this (by decide)
  · obtain ⟨p, hp, _, _, q⟩ := (h2 y hy).mp hb
    exact ⟨p, hp, q⟩
/-- what is left as it was by a change of the order -/
def FSD (ad S : Nat → Nat) (I : Nat → Nat → Nat) (ln ad' S' : Nat → Nat) (I' : Nat → Nat → Nat) (ln' : Nat → Nat) : Prop := (∀ i : Nat, i < 7 ∨ 30 ≤ i → ad' i = ad i ∧ ln' i = ln i) ∧ (∀ i : Nat, i < 7 ∨ (30 ≤ i ∧ i ≠ 37 ∧ i ≠ 39) → I' i = I i) ∧ (∀ s : Nat, s < 3 ∨ s = 11 → S' s = S s) ∧ (∀ b : Nat, (∀ n : Nat, I 13 n ≤ b) → ∀ n : Nat, I' 13 n ≤ b)
theorem FSD.rf (ad S : Nat → Nat) (I : Nat → Nat → Nat) (ln : Nat → Nat) : FSD ad S I ln ad S I ln := ⟨fun _ _ => ⟨rfl, rfl⟩, fun _ _ => rfl, fun _ _ => rfl, fun _ h => h⟩
theorem FSD.tr {ad S : Nat → Nat} {I : Nat → Nat → Nat} {ln ad' S' : Nat → Nat} {I' : Nat → Nat → Nat} {ln' ad'' S'' : Nat → Nat} {I'' : Nat → Nat → Nat} {ln'' : Nat → Nat} (h : FSD ad S I ln ad' S' I' ln') (k : FSD ad' S' I' ln' ad'' S'' I'' ln'') : FSD ad S I ln ad'' S'' I'' ln'' :=
  ⟨fun i hi => ⟨(k.1 i hi).1.trans (h.1 i hi).1, (k.1 i hi).2.trans (h.1 i hi).2⟩, fun i hi => (k.2.1 i hi).trans (h.2.1 i hi), fun s hs => (k.2.2.1 s hs).trans (h.2.2.1 s hs), fun b hb => k.2.2.2 b (h.2.2.2 b hb)⟩
theorem FSD.fg {ad S : Nat → Nat} {I : Nat → Nat → Nat} {ln ad' S' : Nat → Nat} {I' : Nat → Nat → Nat} {ln' : Nat → Nat} (h : FG ad S I ln ad' S' I' ln') : FSD ad S I ln ad' S' I' ln' := ⟨fun i hi => ⟨(h.1 i (by omega)).1, (h.1 i (by omega)).2.1⟩, fun i hi => (h.1 i (by omega)).2.2, fun s hs => h.2.1 s (by omega), h.2.2.1⟩
theorem FSD.ftb {ad S : Nat → Nat} {I : Nat → Nat → Nat} {ln ad' S' : Nat → Nat} {I' : Nat → Nat → Nat} {ln' : Nat → Nat} (h : FTB ad S I ln ad' S' I' ln') : FSD ad S I ln ad' S' I' ln' := ⟨fun i hi => ⟨(h.1 i (by omega)).1, (h.1 i (by omega)).2.1⟩, fun i hi => (h.1 i (by omega)).2.2, fun s hs => h.2.1 s (by omega) (by omega) (by omega) (by omega) (by omega) (by omega) (by omega), h.2.2⟩
theorem FB.fr {F : Nat → Nat → Bool} {ad S : Nat → Nat} {I : Nat → Nat → Nat} {ln ad' S' : Nat → Nat} {I' : Nat → Nat → Nat} {ln' : Nat → Nat} (h : FB F S I) (k : FSD ad S I ln ad' S' I' ln') : FB F S' I' := by
  unfold FB
  rw [k.2.1 6 (by omega), k.2.2.1 1 (by omega)]
  exact h
section STL
variable {L : Nat → Nat → Int64} {E : (Nat → Prop) × (Nat → Option PE)} {R : Nat × Nat} {o r : Nat → Nat} {F : Nat → Nat → Bool} {rt ad S : Nat → Nat} {I : Nat → Nat → Nat} {ln : Nat → Nat} {z : Nat × Nat} {u : PS} {e x pl t : Nat} {g : Nat → Nat} {D : Nat → Fn}
/-- numbers and rows that the nodes don't have -/
theorem NS.put (h : NS L E R B0 o F rt ad S I ln z u e g D) {u' : PS} {S' : Nat → Nat} {I' : Nat → Nat → Nat} (hv : VC 69 ad S' I' ln L E z u') (hs : ∀ s : Nat, 7 ≤ s → s < 11 → S' s = S s) (hi : ∀ i : Nat, 7 ≤ i → i < 24 → I' i = I i) : NS L E R B0 o F rt ad S' I' ln z u' e g D := by
  obtain ⟨a1, a2, a3, a4, a5, a6⟩ := h
  exact ⟨hv, a2.s (hs 7 (by omega) (by omega)), a3.cong (fun j q1 q2 _ _ => hi j q1 q2) (hs 8 (by omega) (by omega)) (hs 9 (by omega) (by omega)) (hs 10 (by omega) (by omega)) (fun _ _ => rfl), by rw [hi 8 (by omega) (by omega)]; exact a4, a5, by rw [hs 9 (by omega) (by omega)]; exact a6⟩
theorem NS.slide (hr : PR9 r x) (hx : x < 10) (hn : ∀ y : Nat, y < 10 → y ≠ x → ∀ p : Nat, p < 24 → ¬ (dep (fnOf (F p)) x ∧ dep (fnOf (F p)) y)) : ∀ (d a : Nat), a + d ≤ 9 → (NS L E R B0 (insO r (a + d) x) F rt ad S I ln z u e g D ↔ NS L E R B0 (insO r a x) F rt ad S I ln z u e g D) := by
  intro d
  induction d with
  | zero => intro a _; exact Iff.rfl
  | succ d ih =>
    intro a ha
    have hy := hr.1 (a + d) (by omega)
    have hs := ins_sw r x (show a + d < 9 by omega)
    have ex : insO r (a + d) x (a + d) = x := insO_at r _ x
    have ey : insO r (a + d) x (a + d + 1) = r (a + d) := ins_s r x _
    have ey2 : insO r (a + d + 1) x (a + d) = r (a + d) := ins_lt r x (by omega)
    have ex2 : insO r (a + d + 1) x (a + d + 1) = x := insO_at r _ x
    rw [← ih a (by omega), show a + (d + 1) = a + d + 1 by omega]
    constructor
    · intro h
      exact h.pass (insO_PO hr hx (by omega)) hs.symm (fun p hp w => by rw [ex2, ey2] at w; exact hn _ hy.1 hy.2 p hp ⟨w.2, w.1⟩)
    · intro h
      exact h.pass (insO_PO hr hx (by omega)) hs (fun p hp w => by rw [ex, ey] at w; exact hn _ hy.1 hy.2 p hp w)
theorem NS.slide2 (hr : PR9 r x) (hx : x < 10) (hn : ∀ y : Nat, y < 10 → y ≠ x → ∀ p : Nat, p < 24 → ¬ (dep (fnOf (F p)) x ∧ dep (fnOf (F p)) y)) {a b : Nat} (ha : a < 10) (hb : b < 10) (h : NS L E R B0 (insO r a x) F rt ad S I ln z u e g D) : NS L E R B0 (insO r b x) F rt ad S I ln z u e g D := by
  have h1 := NS.slide (L := L) (E := E) (R := R) (F := F) (rt := rt) (ad := ad) (S := S) (I := I) (ln := ln) (z := z) (u := u) (e := e) (g := g) (D := D) hr hx hn a 0 (by omega)
  have h2 := NS.slide (L := L) (E := E) (R := R) (F := F) (rt := rt) (ad := ad) (S := S) (I := I) (ln := ln) (z := z) (u := u) (e := e) (g := g) (D := D) hr hx hn b 0 (by omega)
  rw [Nat.zero_add] at h1 h2
  exact h2.mpr (h1.mp h)
theorem q_D_matesOf (h : VC 69 ad S I ln L E z u) (l39 : ln 39 = 10) (l6 : ln 6 = 24) (fb : FB F S I) (h3 : S 3 = 0 ∨ S 3 = 1) (hmo : S 3 = 1 → MOK F I) {k : Nat} (hk : k < 10) {Q : Int32 → PS → Prop} (hQ : ∀ (u' : PS) (S' : Nat → Nat) (I' : Nat → Nat → Nat), VC 69 ad S' I' ln L E z u' → S' 3 = 1 → MOK F I' → (∀ s : Nat, s ≠ 3 → S' s = S s) → (∀ i : Nat, i ≠ 39 → I' i = I i) → Q (nI (I' 39 k)) u') : p_D_matesOf (ad 2) (nI k) u Q := by
  have J : ∀ (u' : PS) (S' : Nat → Nat) (I' : Nat → Nat → Nat), VC 69 ad S' I' ln L E z u' → S' 3 = 1 → MOK F I' → (∀ s : Nat, s ≠ 3 → S' s = S s) → (∀ i : Nat, i ≠ 39 → I' i = I i) → p_D_matesOf_J23 Q (ad 2) (nI k) u' := fun u' S' I' q1 q2 q3 q4 q5 => by
    unfold p_D_matesOf_J23
    exact ⟨_, q1.fD (by decide) rfl, _, q1.ia 39 (by decide) (ii (by decide)) (j := k) (by omega) (by omega), hQ u' S' I' q1 q2 q3 q4 q5⟩
  unfold p_D_matesOf
  refine ⟨_, h.fD (by decide) rfl, fun w => ?_, fun w => ?_⟩
  · have w1 : S 3 = 1 := h3.resolve_left (fun q => w (by rw [q]; rfl))
    exact J u S I h w1 (hmo w1) (fun _ _ => rfl) (fun _ _ => rfl)
  · refine ⟨_, h.fD (by decide) rfl, _, h.fD (by decide) rfl, h.obF (by decide), ?_⟩
    refine q_F_findMates h l39 l6 (fun p hp => (fb.1 p hp).1) fb.2.1 (fun u1 f h1 q1 q2 => ⟨Or.inr rfl, ?_⟩)
    obtain ⟨u2, s2, h2⟩ := h1.sD (by decide) 8 3 1 (by decide) rfl rfl rfl rfl
    refine ⟨u2, s2, J u2 _ _ h2 (up_eq _ _ _) (fun k hk => ?_) (fun s hs => up_ne _ _ hs) (fun i hi => up_ne _ _ hi)⟩
    rw [up_eq]
    refine ⟨q1 k hk, fun y hy => ?_⟩
    rw [q2 k y hk]
    constructor
    · rintro ⟨p, hp, b1, b2, b3⟩
      exact ⟨p, hp, (fb.2.2 p hp).mp b1, ((fb.1 p hp).2 k hk).mp b2, ((fb.1 p hp).2 y hy).mp b3⟩
    · rintro ⟨p, hp, b1, b2, b3⟩
      exact ⟨p, hp, (fb.2.2 p hp).mpr b1, ((fb.1 p hp).2 k hk).mpr b2, ((fb.1 p hp).2 y hy).mpr b3⟩
end STL
