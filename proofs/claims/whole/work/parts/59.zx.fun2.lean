/-! Functions: setAll(), setInput(), join(), select() -/
def FK (F : Nat → Nat → Bool) (S : Nat → Nat) (I : Nat → Nat → Nat) (L : Nat → Nat → Int64) : Prop := (∀ p : Nat, p < 24 → FP (F p) (I 6 p) (L (42 + p))) ∧ S 0 < 2 ^ 24 ∧ S 1 < 2 ^ 24 ∧ ∀ p : Nat, p < 24 → (S 0).testBit p = true → (∀ k : Nat, k < 10 → (I 6 p).testBit k = true → dep (fnOf (F p)) k) ∧ (S 1).testBit p = brd (I 6 p)
/-- what is left as it was by a change of place p -/
def FRF (p : Nat) (ad S : Nat → Nat) (I : Nat → Nat → Nat) (ad' S' : Nat → Nat) (I' : Nat → Nat → Nat) : Prop := (∀ i : Nat, i < 42 ∨ 67 ≤ i → ad' i = ad i) ∧ (∀ i : Nat, i ≠ 6 → I' i = I i) ∧ (∀ s : Nat, 2 ≤ s → S' s = S s) ∧ ∀ q : Nat, q ≠ p → (S' 0).testBit q = (S 0).testBit q
theorem setb_24 {x p : Nat} (c : Bool) (hx : x < 2 ^ 24) (hp : p < 24) : setb x p c < 2 ^ 24 := setb_lt c hx hp
theorem FK.put {F : Nat → Nat → Bool} {S : Nat → Nat} {I : Nat → Nat → Nat} {L : Nat → Nat → Int64} (h : FK F S I L) {p us : Nat} (hp : p < 24) {f : Nat → Bool} {r s : Nat → Int64} (hf : FP f us r) : FK (upF F p f) (va_up S 0 (setb (S 0) p false)) (va_up I 6 (va_up (I 6) p us)) (va_up (va_up L (42 + p) r) 66 s) := by
  obtain ⟨h1, h2, h3, h4⟩ := h
  refine ⟨fun q hq => ?_, by rw [up_eq]; exact setb_24 _ h2 hp, by rw [up_ne _ _ (by decide)]; exact h3, fun q hq hs => ?_⟩
  · rw [up_eq I 6, up_ne _ _ (show 42 + q ≠ 66 by omega)]
    by_cases c : q = p
    · subst c
      rw [up_eq, up_eq]
      have e : upF F q f q = f := by funext v; exact if_pos rfl
      rw [e]; exact hf
    · rw [up_ne _ _ c, up_ne _ _ (by omega)]
      have e : upF F p f q = F q := by funext v; exact if_neg c
      rw [e]; exact h1 q hq
  · rw [up_eq, tb_setb] at hs
    by_cases c : q = p
    · rw [if_pos c] at hs; exact absurd hs (by decide)
    · rw [if_neg c] at hs
      have e : upF F p f q = F q := by funext v; exact if_neg c
      rw [e, up_eq, up_ne _ _ c, up_ne _ _ (by decide)]
      exact h4 q hq hs
theorem FK.sure {F : Nat → Nat → Bool} {S : Nat → Nat} {I : Nat → Nat → Nat} {L L' : Nat → Nat → Int64} (h : FK F S I L) {p us : Nat} (hp : p < 24) {f : Nat → Bool} {r : Nat → Int64} (hf : FP f us r) (hd : ∀ k : Nat, k < 10 → us.testBit k = true → dep (fnOf f) k) (hL : L' (42 + p) = r) (hO : ∀ q : Nat, q < 24 → q ≠ p → L' (42 + q) = L (42 + q)) : FK (upF F p f) (va_up (va_up S 0 (setb (S 0) p true)) 1 (setb (S 1) p (brd us))) (va_up I 6 (va_up (I 6) p us)) L' := by
  obtain ⟨h1, h2, h3, h4⟩ := h
  refine ⟨fun q hq => ?_, by rw [up_ne _ _ (by decide), up_eq]; exact setb_24 _ h2 hp, by rw [up_eq]; exact setb_24 _ h3 hp, fun q hq hs => ?_⟩
  · rw [up_eq]
    by_cases c : q = p
    · subst c
      rw [up_eq, hL]
      have e : upF F q f q = f := by funext v; exact if_pos rfl
      rw [e]; exact hf
    · rw [up_ne _ _ c, hO q hq c]
      have e : upF F p f q = F q := by funext v; exact if_neg c
      rw [e]; exact h1 q hq
  · rw [up_ne _ _ (by decide), up_eq, tb_setb] at hs
    rw [up_eq, up_eq, tb_setb]
    by_cases c : q = p
    · subst c
      have e : upF F q f q = f := by funext v; exact if_pos rfl
      rw [e, up_eq, if_pos rfl]
      exact ⟨hd, rfl⟩
    · rw [if_neg c] at hs
      have e : upF F p f q = F q := by funext v; exact if_neg c
      rw [e, up_ne _ _ c, if_neg c]
      exact h4 q hq hs
theorem dep_setb {f : Nat → Bool} {k : Nat} (hk : k < 10) : dep (fnOf f) k ↔ ∃ v : Nat, v < 1024 ∧ f (setb v k false) ≠ f (setb v k true) := by
  rw [dep_iff]
  constructor
  · rintro ⟨x, hx⟩
    refine ⟨numT x 10, num_lt x, ?_⟩
    unfold fnOf at hx
    rw [num_setb x hk, num_setb x hk] at hx
    exact hx
  · rintro ⟨v, hv, hx⟩
    refine ⟨v.testBit, ?_⟩
    unfold fnOf
    rw [num_setb _ hk, num_setb _ hk, num_bits hv]
    exact hx
theorem NUm.nd {f : Nat → Bool} {m k : Nat} (h : NUm f m) (hk : k < 10) (hm : m.testBit k = false) : ¬ dep (fnOf f) k := by
  rw [dep_setb hk]
  rintro ⟨v, hv, hx⟩
  refine hx (h.eq (setb_10 _ hv hk) (setb_10 _ hv hk) (fun i hi => ?_))
  have c : i ≠ k := fun e => by subst e; rw [hm] at hi; exact absurd hi (by decide)
  rw [tb_setb, tb_setb, if_neg c, if_neg c]
section FU2
variable {L : Nat → Nat → Int64} {E : (Nat → Prop) × (Nat → Option PE)} {ad S : Nat → Nat} {I : Nat → Nat → Nat} {ln : Nat → Nat} {z : Nat × Nat} {u : PS} {F : Nat → Nat → Bool}
/-- behind the loop -/
theorem q_F_put {r : Nat → Int64} (h : VC 69 ad S I ln (va_up L 66 r) E z u) (l6 : ln 6 = 24) (ft : FK F S I L) {p us : Nat} (hp : p < 24) {f : Nat → Bool} (hf : FP f us r) {K : PS → Prop} (hK : ∀ (u' : PS) (ad' S' : Nat → Nat) (I' : Nat → Nat → Nat) (L' : Nat → Nat → Int64), VC 69 ad' S' I' ln L' E z u' → FK (upF F p f) S' I' L' → FRF p ad S I ad' S' I' → K u') : p_F_putSpare (ad 1) (nI p) (nI us) u K := by
  refine q_F_putSpare h l6 ft.2.1 hp (fun u1 ad1 h1 e1 => hK u1 ad1 _ _ _ h1 (ft.put hp hf) ⟨e1, fun i hi => up_ne _ _ hi, fun s hs => up_ne _ _ (by omega), fun q hq => ?_⟩)
  rw [up_eq, tb_setb, if_neg hq]
theorem FRF.sr {p us : Nat} {b : Bool} : FRF p ad S I ad (va_up (va_up S 0 (setb (S 0) p true)) 1 (setb (S 1) p b)) (va_up I 6 (va_up (I 6) p us)) :=
  ⟨fun _ _ => rfl, fun i hi => up_ne _ _ hi, fun s hs => by rw [up_ne _ _ (by omega), up_ne _ _ (by omega)], fun q hq => by rw [up_ne _ _ (by decide), up_eq, tb_setb, if_neg hq]⟩
theorem bx_uuL (L : Nat → Nat → Int64) (i : Nat) (f g : Nat → Int64) : va_up (va_up L i f) i g = va_up L i g := by
  funext j
  by_cases c : j = i
  · subst c; rw [up_eq, up_eq]
  · rw [up_ne _ _ c, up_ne _ _ c, up_ne _ _ c]
theorem q_F_setAll (h : VC 69 ad S I ln L E z u) (l6 : ln 6 = 24) (ft : FK F S I L) {p : Nat} (hp : p < 24) (c : Bool) {K : PS → Prop} (hK : ∀ (u' : PS) (ad' S' : Nat → Nat) (I' : Nat → Nat → Nat) (L' : Nat → Nat → Int64), VC 69 ad' S' I' ln L' E z u' → FK (upF F p (fun _ => c)) S' I' L' → FRF p ad S I ad' S' I' → K u') : p_F_setAll (ad 1) (nI p) (bI c) u K := by
  have J : ∀ x : Int64, (∀ b : Nat, b < 64 → WB x b = c) → p_F_setAll_J19 K (ad 1) (nI p) (ad (42 + p)) 0 x u := fun x hx => by
    unfold p_F_setAll_J19
    obtain ⟨u1, s1, h1⟩ := h.lsx (by decide) (42 + p) (by omega) (j := 0) (by decide) x
    refine ⟨u1, s1, h1.obF (by decide), ?_⟩
    refine q_F_beSure h1 l6 ft.2.1 ft.2.2.1 hp (us := 0) (by decide) (fun u2 h2 => hK u2 ad _ _ _ h2 (ft.sure hp (FP.mk (by decide) (fun v _ => rfl) (fun y hy hk b hb => ?_)) (fun k _ w => ?_) (up_eq _ _ _) (fun q hq hne => up_ne _ _ (by omega))) FRF.sr)
    · have e : y = 0 := by rw [← hk]; exact Nat.and_zero y
      subst e; rw [pk_uLs]; exact hx b hb
    · rw [Nat.zero_testBit] at w; exact absurd w (by decide)
  unfold p_F_setAll
  refine ⟨_, h.fF (by decide) rfl, _, h.ra (by decide) hp, fun w => ?_, fun w => ?_⟩
  · have : c = false := by
      cases c
      · rfl
      · exact absurd rfl w
    subst this
    exact J 0 (fun b _ => wz_0 b)
  · have : c = true := (bI_1 c).mp w
    subst this
    exact J (-1) (fun b hb => w_m1 b hb)
theorem q_F_setInput (h : VC 69 ad S I ln L E z u) (l6 : ln 6 = 24) (ft : FK F S I L) {p k : Nat} (hp : p < 24) (hk : k < 10) {K : PS → Prop} (hK : ∀ (u' : PS) (ad' S' : Nat → Nat) (I' : Nat → Nat → Nat) (L' : Nat → Nat → Int64), VC 69 ad' S' I' ln L' E z u' → FK (upF F p (fun v => v.testBit k)) S' I' L' → FRF p ad S I ad' S' I' → K u') : p_F_setInput (ad 1) (nI p) (nI k) u K := by
  have pk : 2 ^ k < 2 ^ 10 := Nat.pow_lt_pow_right (by decide) hk
  have nu : NUm (fun v => v.testBit k) (2 ^ k) := NUm.of (fun x y _ _ hi => hi k (Nat.testBit_two_pow_self))
  have dk : ∀ l : Nat, l < 10 → (2 ^ k).testBit l = true → dep (fnOf (fun v => v.testBit k)) l := fun l hl w => by
    rw [Nat.testBit_two_pow, decide_eq_true_eq] at w
    subst w
    rw [dep_setb hk]
    refine ⟨0, by decide, ?_⟩
    show (setb 0 k false).testBit k ≠ (setb 0 k true).testBit k
    rw [tb_setb, tb_setb, if_pos rfl, if_pos rfl]
    decide
  have J : ∀ (u1 : PS) (r : Nat → Int64), VC 69 ad S I ln (va_up L (42 + p) r) E z u1 → SPI (fun v => v.testBit k) (2 ^ k / 64) 16 r → p_F_setInput_J39 K (ad 1) (nI p) (nI k) u1 := fun u1 r h1 hr => by
    unfold p_F_setInput_J39
    rw [nI_pw (by omega)]
    exact ⟨h1.obF (by decide), q_F_beSure h1 l6 ft.2.1 ft.2.2.1 hp pk (fun u2 h2 => hK u2 ad _ _ _ h2 (ft.sure hp (FP.mk pk nu hr) dk (up_eq _ _ _) (fun q hq hne => up_ne _ _ (by omega))) FRF.sr)⟩
  unfold p_F_setInput
  refine ⟨_, h.fF (by decide) rfl, _, h.ra (by decide) hp, pk_le 6 k (fun w => ?_) (fun w => ?_)⟩
  · have p16 : 2 ^ (k - 6) < 2 ^ 4 := Nat.pow_lt_pow_right (by decide) (by omega)
    have pp : 0 < 2 ^ (k - 6) := Nat.two_pow_pos _
    obtain ⟨u1, s1, h1⟩ := h.lsx (by decide) (42 + p) (by omega) (j := 0) (by decide) 0
    obtain ⟨u2, s2, h2⟩ := h1.lsx (by decide) (42 + p) (by omega) (j := 2 ^ (k - 6)) p16 (-1)
    rw [up_eq, bx_uuL] at h2
    refine ⟨u1, s1, u2, ?_, J u2 _ h2 ?_⟩
    · rw [show (6 : Int32) = nI 6 from rfl, pk_sub w, nI_pw (by omega)]; exact s2
    · have e : 2 ^ k / 64 = 2 ^ (k - 6) := by
        rw [show (64 : Nat) = 2 ^ 6 from rfl, Nat.pow_div w (by decide)]
      intro y hy hyk b hb
      rw [e] at hyk
      show _ = (64 * y + b).testBit k
      rw [tb_wb _ hb, if_neg (by omega)]
      by_cases c : y.testBit (k - 6) = true
      · have ey : y = 2 ^ (k - 6) := by
          rw [← hyk]
          refine Nat.eq_of_testBit_eq (fun i => ?_)
          rw [Nat.testBit_and, Nat.testBit_two_pow]
          by_cases d : k - 6 = i
          · subst d; rw [c]; simp
          · simp [d]
        rw [ey, pk_uLs, w_m1 b hb, Nat.testBit_two_pow_self]
      · have ey : y = 0 := by
          rw [← hyk]
          refine Nat.eq_of_testBit_eq (fun i => ?_)
          rw [Nat.testBit_and, Nat.testBit_two_pow, Nat.zero_testBit]
          by_cases d : k - 6 = i
          · subst d
            rw [Bool.not_eq_true] at c
            rw [c]; rfl
          · simp [d]
        rw [ey, pk_uLn (by omega), pk_uLs, wz_0, Nat.zero_testBit]
  · refine ⟨vp_in_nI w (by decide), ?_⟩
    obtain ⟨u1, s1, h1⟩ := h.lsx (by decide) (42 + p) (by omega) (j := 0) (by decide) (tab_ONES k)
    rw [nI_clamp (by omega)]
    refine ⟨u1, s1, J u1 _ h1 (fun y hy hyk b hb => ?_)⟩
    have e : 2 ^ k / 64 = 0 := Nat.div_eq_of_lt (pw64 k w)
    rw [e, Nat.and_zero] at hyk
    subst hyk
    rw [pk_uLs, ones_tb k w b hb]
    show _ = (64 * 0 + b).testBit k
    rw [Nat.mul_zero, Nat.zero_add]
end FU2
