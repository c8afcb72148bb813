/-! the house: what a call leaves, refusals, the calls that change functions -/
section HSE
variable {L : Nat → Nat → Int64} {E : (Nat → Prop) × (Nat → Option PE)} {R n : Nat × Nat} {e t : Nat} {o rt : Nat → Nat} {ad S : Nat → Nat} {I : Nat → Nat → Nat} {ln : Nat → Nat} {z : Nat × Nat} {u : PS} {g : Nat → Nat} {D : Nat → Fn} {F Fd : Nat → Nat → Bool}
/-- others' cells change -/
theorem VC.re (h : VC 69 ad S I ln L E z u) {u' : PS} {X : Nat → Option PE} (hc : ∀ i : Nat, i < 69 → u'.1 (ad i) = u.1 (ad i)) (h2 : u'.2 = u.2) (hX : ∀ q : Nat, E.1 q → u'.1 q = X q) : VC 69 ad S I ln L (E.1, X) z u' := by
  obtain ⟨a1, a2, a3, a4, a5⟩ := h
  exact ⟨fun i hi => by rw [hc i hi]; exact a1 i hi, a2, a3, fun q hq => ⟨(a4 q hq).1, hX q hq⟩, by rw [h2]; exact a5⟩
theorem HS.vc (h : HS n L E R F Fd o rt ad S I ln z u e t g D) {E' : (Nat → Prop) × (Nat → Option PE)} {u' : PS} (hv : VC 69 ad S I ln L E' z u') : HS n L E' R F Fd o rt ad S I ln z u' e t g D := by
  obtain ⟨⟨_, a2, a3, a4, a5, a6⟩, r⟩ := h
  exact ⟨⟨hv, a2, a3, a4, a5, a6⟩, r⟩
theorem HS.re (h : HS n L E R F Fd o rt ad S I ln z u e t g D) {u' : PS} (hc : ∀ i : Nat, i < 69 → u'.1 (ad i) = u.1 (ad i)) (h2 : u'.2 = u.2) : HS n L (E.1, u'.1) R F Fd o rt ad S I ln z u' e t g D := h.vc (h.1.1.re hc h2 (fun _ _ => rfl))
/-- a throw takes room -/
theorem SH.mono {R' z' : Nat × Nat} (h : SH R S ln z e) (h1 : z'.1 + R.1 ≤ z.1 + R'.1) (h2 : z'.2 + R.2 ≤ z.2 + R'.2) : SH R' S ln z' e := by
  obtain ⟨a1, a2, a3, a4, a5, a6, a7⟩ := h
  exact ⟨a1, a2, a3, a4, a5, by omega, by omega⟩
theorem HS.th (h : HS n L E R F Fd o rt ad S I ln z u e t g D) : HS n L E (R.1 + 1, R.2 + 6) F Fd o rt ad S I ln (z.1 + 1, z.2 + 6) (x_th u) e t g D := by
  obtain ⟨⟨⟨b1, b2, b3, b4, b5⟩, a2, a3, a4, a5, a6⟩, r⟩ := h
  refine ⟨⟨⟨b1, b2, fun i hi => ⟨by have := (b3 i hi).1; dsimp only; omega, (b3 i hi).2⟩, fun q hq => ⟨by have := (b4 q hq).1; dsimp only; omega, (b4 q hq).2⟩, ?_⟩, a2.mono (by dsimp only; omega) (by dsimp only; omega), a3, a4, a5, a6⟩, r⟩
  unfold x_th
  rw [← b5]
theorem HS.le (h : HS n L E R F Fd o rt ad S I ln z u e t g D) {n' R' : Nat × Nat} (h1 : n.1 ≤ n'.1) (h2 : n.2 ≤ n'.2) (h3 : R.1 ≤ R'.1) (h4 : R.2 ≤ R'.2) : HS n' L E R' F Fd o rt ad S I ln z u e t g D := by
  obtain ⟨⟨a1, a2, a3, a4, a5, a6⟩, r1, r2, r3, r4, r5, r6, ⟨r7, r8⟩, r9, r10⟩ := h
  exact ⟨⟨a1, a2.mono (by omega) (by omega), a3, a4, a5, a6⟩, r1, r2, r3, r4, r5, r6, ⟨r7, Nat.le_trans r8 h1⟩, r9, Nat.le_trans r10 h2⟩
/-- the functions of a place have changed -/
theorem q_H_chg (h : HS n L E R F Fd o rt ad S I ln z u e t g D) (ch : CHG F Fd S) {p : Nat} (hp : p < 24) {f : Nat → Bool} {u1 : PS} {ad' S' : Nat → Nat} {I' : Nat → Nat → Nat} {L' : Nat → Nat → Int64} (hv : VC 69 ad' S' I' ln L' E z u1) (fk : FK (upF F p f) S' I' L') (fr : FRF p ad S I ad' S' I') {K : PS → Prop} (hK : ∀ (u' : PS) (S'' : Nat → Nat), HS n L' E R (upF F p f) Fd o rt ad' S'' I' ln z u' e t g D → CHG (upF F p f) Fd S'' → ad' 0 = ad 0 → K u') : ∃ z_5 : Nat, x_fr u1 (ad 0) 5 1 z_5 ∧ (x_ob u1 z_5 0 ∧ (p_D_functionChanged z_5 (nI p) u1 (fun (u_6 : PS) => (K u_6)))) := by
  obtain ⟨⟨a1, a2, a3, a4, a5, a6⟩, r1, ⟨r2, r2'⟩, r3, r4, ⟨r5, r5'⟩, r6, ⟨r7, r8⟩, r9, r10⟩ := h
  have e0 : ad' 0 = ad 0 := fr.1 0 (by omega)
  have iI : ∀ i : Nat, i ≠ 6 → I' i = I i := fr.2.1
  have sS : ∀ s : Nat, 2 ≤ s → S' s = S s := fr.2.2.1
  rw [← e0]
  refine ⟨_, hv.fH (by decide) rfl, hv.obD (by decide), ?_⟩
  unfold p_D_functionChanged
  obtain ⟨u2, s2, k2⟩ := hv.sD (by decide) 6 2 (setb (S' 2) p true) (by decide) rfl rfl rfl rfl
  obtain ⟨u3, s3, k3⟩ := k2.sD (by decide) 8 3 0 (by decide) rfl rfl rfl rfl
  refine ⟨_, hv.fD (by decide) rfl, u2, by rw [nI_set1 (by omega)]; exact s2, Or.inl rfl, u3, s3, hK u3 (va_up (va_up S' 2 (setb (S' 2) p true)) 3 0) ?_ ?_ e0⟩
  · have sv : ∀ s : Nat, s ≠ 2 → s ≠ 3 → va_up (va_up S' 2 (setb (S' 2) p true)) 3 0 s = S' s := fun s q1 q2 => by rw [up_ne _ _ q2, up_ne _ _ q1]
    refine ⟨⟨k3, a2.s (by rw [sv 7 (by decide) (by decide)]; exact sS 7 (by decide)), a3.cong (fun j q1 q2 _ _ => iI j (by omega)) (by rw [sv 8 (by decide) (by decide)]; exact sS 8 (by decide)) (by rw [sv 9 (by decide) (by decide)]; exact sS 9 (by decide)) (by rw [sv 10 (by decide) (by decide)]; exact sS 10 (by decide)) (fun _ _ => rfl), by rw [iI 8 (by decide)]; exact a4, a5, by rw [sv 9 (by decide) (by decide), sS 9 (by decide)]; exact a6⟩, fk.same (sv 0 (by decide) (by decide)) (sv 1 (by decide) (by decide)) rfl (fun _ _ => rfl), ⟨fun j hj => by rw [iI 37 (by decide)]; exact r2 j hj, fun q hq => by rw [iI 38 (by decide)]; exact r2' q hq⟩, r3, r4, ⟨Or.inl (up_eq _ _ _), fun w => ?_⟩, r6, ⟨by rw [iI 25 (by decide), sv 14 (by decide) (by decide), sS 14 (by decide)]; exact r7, by rw [sv 14 (by decide) (by decide), sS 14 (by decide)]; exact r8⟩, ⟨by rw [iI 13 (by decide), sv 11 (by decide) (by decide), sS 11 (by decide)]; exact r9, by rw [sv 11 (by decide) (by decide), sS 11 (by decide)]; exact r10⟩⟩
    rw [up_eq] at w
    exact absurd w (by decide)
  · have s2v : va_up (va_up S' 2 (setb (S' 2) p true)) 3 0 2 = setb (S 2) p true := by rw [up_ne _ _ (by decide), up_eq, sS 2 (by decide)]
    have s0v : va_up (va_up S' 2 (setb (S' 2) p true)) 3 0 0 = S' 0 := by rw [up_ne _ _ (by decide), up_ne _ _ (by decide)]
    refine ⟨by rw [s2v]; exact setb_lt _ ch.1 hp, fun q hq hb => ?_⟩
    rw [s2v, tb_setb] at hb
    by_cases c : q = p
    · rw [if_pos c] at hb; exact absurd hb (by decide)
    · rw [if_neg c] at hb
      have := ch.2 q hq hb
      rw [upF_n _ _ c, s0v, fr.2.2.2 q c]
      exact this
end HSE
/-! refusals -/
theorem ok_lt {x : Int32} {N : Nat} (h : decide ((0 : Int32) ≤ x ∧ x ≤ nI N) = false) (hN : N + 1 < 2 ^ 31) : x < 0 ∨ (¬ x < 0 ∧ ¬ x < nI (N + 1)) := by
  have h := of_decide_eq_false h
  by_cases c : x < 0
  · exact Or.inl c
  · refine Or.inr ⟨c, fun q => h ⟨Int32.not_lt.mp c, ?_⟩⟩
    obtain ⟨j, hj, e⟩ := nI_of2 (M := nI (N + 1)) (n := N + 1) (nI_toInt hN) c (Int32.le_of_lt q)
    subst e
    have := (nI_ltI (by omega) (by omega)).mp q
    exact nI_le (by omega) (by omega)
theorem ok_ge {x : Int32} {N : Nat} (h : decide ((0 : Int32) ≤ x ∧ x ≤ nI N) = true) (hN : N + 1 < 2 ^ 31) : ¬ x < 0 ∧ x < nI (N + 1) := by
  have h := of_decide_eq_true h
  refine ⟨Int32.not_lt.mpr h.1, ?_⟩
  obtain ⟨j, hj, e⟩ := nI_of2 (M := nI N) (n := N) (nI_toInt (by omega)) (Int32.not_lt.mpr h.1) h.2
  subst e
  exact nI_lt (by omega) (by omega)
theorem q_needPlace {x : Int32} {u : PS} {K : PS → Prop} {X : String → PS → Prop} (h1 : okP x = true → K u) (h0 : okP x = false → X "java/lang/IndexOutOfBoundsException" (x_th u)) : p_H_needPlace x u K X := by
  unfold p_H_needPlace p_H_needPlace_J10
  cases c : okP x
  · rcases ok_lt (N := 23) c (by decide) with q | ⟨q1, q2⟩
    · exact br_t q (h0 c)
    · exact br_f q1 (br_f q2 (h0 c))
  · obtain ⟨q1, q2⟩ := ok_ge (N := 23) c (by decide)
    exact br_f q1 (br_t q2 (h1 c))
theorem q_needInput {x : Int32} {u : PS} {K : PS → Prop} {X : String → PS → Prop} (h1 : okI x = true → K u) (h0 : okI x = false → X "java/lang/IllegalArgumentException" (x_th u)) : p_H_needInput x u K X := by
  unfold p_H_needInput p_H_needInput_J10
  cases c : okI x
  · rcases ok_lt (N := 9) c (by decide) with q | ⟨q1, q2⟩
    · exact br_t q (h0 c)
    · exact br_f q1 (br_f q2 (h0 c))
  · obtain ⟨q1, q2⟩ := ok_ge (N := 9) c (by decide)
    exact br_f q1 (br_t q2 (h1 c))
theorem q_needBelow {x : Int32} {N : Nat} (hN : N + 1 < 2 ^ 31) {u : PS} {K : PS → Prop} {X : String → PS → Prop} (h1 : decide ((0 : Int32) ≤ x ∧ x ≤ nI N) = true → K u) (h0 : decide ((0 : Int32) ≤ x ∧ x ≤ nI N) = false → X "java/lang/IllegalArgumentException" (x_th u)) : p_H_needBelow x (nI (N + 1)) u K X := by
  unfold p_H_needBelow p_H_needBelow_J9
  cases c : decide ((0 : Int32) ≤ x ∧ x ≤ nI N)
  · rcases ok_lt c hN with q | ⟨q1, q2⟩
    · exact br_t q (h0 c)
    · exact br_f q1 (br_f q2 (h0 c))
  · obtain ⟨q1, q2⟩ := ok_ge c hN
    exact br_f q1 (br_t q2 (h1 c))
theorem q_needTruth {x : Int32} {u : PS} {K : PS → Prop} {X : String → PS → Prop} (h1 : okB x = true → K u) (h0 : okB x = false → X "java/lang/IllegalArgumentException" (x_th u)) : p_H_needTruth x u K X := by
  unfold p_H_needTruth
  by_cases c0 : x = 0
  · exact br_t c0 (h1 (by rw [c0]; decide))
  · refine br_f c0 ?_
    by_cases c1 : x = 1
    · exact br_t c1 (h1 (by rw [c1]; decide))
    · refine br_f c1 (h0 ?_)
      cases c : okB x
      · rfl
      · obtain ⟨b, rfl⟩ := okB_nI c
        cases b
        · exact absurd rfl c0
        · exact absurd rfl c1
theorem ok_ge2 {x : Int32} (h : ¬ x < 24) : 24 ≤ x := Int32.not_lt.mp h
theorem q_needPlaces {x y w : Int32} {u : PS} {K : PS → Prop} {X : String → PS → Prop} (h1 : (okP x && okP y && okP w) = true → K u) (h0 : (okP x && okP y && okP w) = false → X "java/lang/IndexOutOfBoundsException" (x_th u)) : p_H_needPlaces x y w u K X := by
  unfold p_H_needPlaces p_H_needPlaces_J30
  cases cx : okP x
  · have := h0 (by rw [cx]; rfl)
    rcases ok_lt (N := 23) cx (by decide) with q | ⟨q1, q2⟩
    · exact br_t q this
    · exact br_f q1 (br_t (Int32.not_lt.mp q2) this)
  · obtain ⟨q1, q2⟩ := ok_ge (N := 23) cx (by decide)
    refine br_f q1 (br_f (fun w => (Int32.not_le.mpr q2) w) ?_)
    cases cy : okP y
    · have := h0 (by rw [cy, Bool.and_false]; rfl)
      rcases ok_lt (N := 23) cy (by decide) with q | ⟨q1, q2⟩
      · exact br_t q this
      · exact br_f q1 (br_t (Int32.not_lt.mp q2) this)
    · obtain ⟨q1, q2⟩ := ok_ge (N := 23) cy (by decide)
      refine br_f q1 (br_f (fun w => (Int32.not_le.mpr q2) w) ?_)
      cases cw : okP w
      · have := h0 (by rw [cw, Bool.and_false])
        rcases ok_lt (N := 23) cw (by decide) with q | ⟨q1, q2⟩
        · exact br_t q this
        · exact br_f q1 (br_f q2 this)
      · obtain ⟨q1, q2⟩ := ok_ge (N := 23) cw (by decide)
        exact br_f q1 (br_t q2 (h1 (by rw [cx, cy, cw]; rfl)))
