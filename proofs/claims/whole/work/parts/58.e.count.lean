/-! the reference: countQuestions -/
section CQ
variable {ad : Nat → Nat} {S : Nat → Int32} {I : Nat → Nat → Int32} {b u : PS} {F : Nat → Nat → Bool} {o : Nat → Nat} {t : Int32} {n : Nat}
def FL (F : Nat → Nat → Bool) (o : Nat → Nat) (first many w p : Nat) (L : Nat → Int32) : Prop := ∀ p' w' : Nat, p' < many → w' < 1024 → (w' < w ∨ (w' = w ∧ p' < p)) → L (1024 * p' + w') = bI (F (first + p') (numT (pre o w' 10) 10))
theorem q_M_cq_L28 {first many w : Nat} (hm : first + many ≤ 24) (hw : w < 1024) (hF : MF F I) {E : PS → Prop} (hE : ∀ (u' : PS) (L : Nat → Int32), VM ad S (va_up I 4 L) b u' → FL F o first many (w + 1) 0 L → E u') : ∀ (d p : Nat) (u : PS) (L : Nat → Int32), p + d = many → VM ad S (va_up I 4 L) b u → FL F o first many w p L → p_M_countQuestions_L28 (ad 0) (nI first) (nI many) (nI w) (nI (numT (pre o w 10) 10)) E (d + 1) (nI p) u := by
  intro d
  induction d with
  | zero =>
    intro p u L hp h hL
    obtain rfl : p = many := by omega
    rw [p_M_countQuestions_L28]
    refine pk_le p p (fun _ => hE u L h (fun p' w' h1 h2 h3 => hL p' w' h1 h2 (by omega))) (fun h9 => absurd h9 (by omega)) (by rfl) (by rfl) (by omega) (by omega)
  | succ d ih =>
    intro p u L hp h hL
    rw [p_M_countQuestions_L28]
    refine pk_le many p (fun h9 => absurd h9 (by omega)) (fun _ => ?_) (by rfl) (by rfl) (by omega) (by omega)
    have hF' := hF.made (i := 4) (by decide) L
    refine ⟨_, h.fv rfl, h.ob, ?_⟩
    rw [nI_add]
    refine q_M_is h hF' (by omega) (num_lt _) ?_
    have go : p_M_countQuestions_J65 (p_M_countQuestions_L28 (ad 0) (nI first) (nI many) (nI w) (nI (numT (pre o w 10) 10)) E (d + 1)) E (ad 0) (nI first) (nI many) (nI w) (nI (numT (pre o w 10) 10)) (nI p) (ad 4) ((1024 : Int32) * nI p + nI w) (bI (F (first + p) (numT (pre o w 10) 10))) u := by
      unfold p_M_countQuestions_J65
      rw [ix_tab]
      obtain ⟨u1, s1, h1⟩ := h.is 4 (by decide) (by decide) rfl (j := nI (1024 * p + w)) (vp_in_nI (by show _ < 24576; omega) (by decide)) (bI (F (first + p) (numT (pre o w 10) 10)))
      refine ⟨u1, s1, nm_e ?_⟩
      rw [nI_1]
      rw [bx_uu, nI_clamp (by omega), up_eq] at h1
      refine ih (p + 1) u1 _ (by omega) h1 (fun p' w' q1 q2 q3 => ?_)
      by_cases e : p' = p ∧ w' = w
      · obtain ⟨rfl, rfl⟩ := e
        rw [pk_us]
      · rw [pk_un (by omega)]
        exact hL p' w' q1 q2 (by omega)
    cases c : F (first + p) (numT (pre o w 10) 10)
    · rw [c] at go; exact br_t rfl go
    · rw [c] at go; exact br_f (by decide) go
theorem q_M_cq_L9 {first many : Nat} (hm : first + many ≤ 24) (hF : MF F I) (h3 : ∀ i : Nat, i < 10 → I 3 i = nI (o i)) (ho : PO o) {E : PS → Prop} (hE : ∀ (u' : PS) (L : Nat → Int32), VM ad S (va_up I 4 L) b u' → FL F o first many 1024 0 L → E u') : ∀ (d w : Nat) (u : PS) (L : Nat → Int32), w + d = 1024 → VM ad S (va_up I 4 L) b u → FL F o first many w 0 L → p_M_countQuestions_L9 (ad 0) (nI first) (nI many) E (d + 1) (nI w) u := by
  intro d
  induction d with
  | zero =>
    intro w u L hw h hL
    obtain rfl : w = 1024 := by omega
    rw [p_M_countQuestions_L9]
    exact pk_le 1024 1024 (fun _ => hE u L h hL) (fun h9 => absurd h9 (by omega))
  | succ d ih =>
    intro w u L hw h hL
    rw [p_M_countQuestions_L9]
    refine pk_le 1024 w (fun h9 => absurd h9 (by omega)) (fun _ => ?_)
    refine ⟨h.ob, q_M_inputsOf h (fun i hi => by rw [up_ne _ _ (by decide)]; exact h3 i hi) ho (by omega) ?_⟩
    refine ⟨many + 1, q_M_cq_L28 hm (by omega) hF (fun u' L' h' hL' => ?_) many 0 u L (by omega) h hL⟩
    unfold p_M_countQuestions_J72
    refine nm_e ?_
    rw [nI_1]
    exact ih (w + 1) u' L' (by omega) h' hL'
/-- the state within a level -/
def LvS (ad : Nat → Nat) (b : PS) (I0 : Nat → Nat → Int32) (t : Int32) (s fr M0 many sz : Nat) (L0 : Nat → Int32) (p a : Nat) (u : PS) : Prop :=
  ∃ (S : Nat → Int32) (I : Nat → Nat → Int32) (m : Nat), VM ad S I b u ∧ NT s fr m (I 5) (I 6) (I 7) (I 8) ∧ S 0 = t ∧ S 1 = nI m ∧ S 2 = nI s ∧ (∀ i : Nat, i < 4 → I i = I0 i) ∧ (∀ i : Nat, 8 < i → I i = I0 i) ∧ IL many sz fr m L0 (I 4) (I 5) (I 6) p a ∧ m ≤ M0 + p * sz + a
theorem q_M_cq_L126 {I0 : Nat → Nat → Int32} {s fr M0 many sz p : Nat} {L0 : Nat → Int32} {x4 x5 : Int32} (hmany : many ≤ 24) (hsz : sz ≤ 512) (hM : M0 + many * sz ≤ 24576) (hp : p < many) {E : PS → Prop} (hE : ∀ u' : PS, LvS ad b I0 t s fr M0 many sz L0 p sz u' → E u') : ∀ (d a : Nat) (u : PS), a + d = sz → LvS ad b I0 t s fr M0 many sz L0 p a u → p_M_countQuestions_L126 (ad 0) (nI many) x4 x5 (nI sz) (nI p) E (d + 1) (nI a) u := by
  intro d
  induction d with
  | zero =>
    intro a u ha h
    obtain rfl : a = sz := by omega
    rw [p_M_countQuestions_L126]
    exact pk_le a a (fun _ => hE u h) (fun h9 => absurd h9 (by omega)) (by rfl) (by rfl) (by omega) (by omega)
  | succ d ih =>
    intro a u ha hls
    obtain ⟨S, I, m, h, hN, h0, h1, h2, i1, i2, hI, hb⟩ := hls
    rw [p_M_countQuestions_L126]
    refine pk_le sz a (fun h9 => absurd h9 (by omega)) (fun _ => ?_) (by rfl) (by rfl) (by omega) (by omega)
    have hpa : p * sz + a < many * sz := by
      have : (p + 1) * sz ≤ many * sz := Nat.mul_le_mul_right sz hp
      rw [Nat.add_mul] at this
      omega
    have hA := hI.1
    have e1 : I 4 (1024 * p + 2 * a) = L0 (1024 * p + 2 * a) := hA p (2 * a) hp (by omega) (Or.inr ⟨rfl, by omega⟩)
    have e2 : I 4 (1024 * p + 2 * a + 1) = L0 (1024 * p + 2 * a + 1) := hA p (2 * a + 1) hp (by omega) (Or.inr ⟨rfl, by omega⟩)
    have x1 : (1024 : Int32) * nI p + (2 : Int32) * nI a = nI (1024 * p + 2 * a) := by
      rw [show (2 : Int32) = nI 2 from rfl, pk_mul, ix_tab]
    rw [x1]
    refine ⟨_, h.fv rfl, _, h.fv rfl, _, h.ia 4 (by decide) (by decide) rfl (vp_in_nI (by show _ < 24576; omega) (by decide)), _, h.fv rfl, ?_⟩
    rw [nI_1]
    refine ⟨_, h.ia 4 (by decide) (by decide) rfl (vp_in_nI (by show _ < 24576; omega) (by decide)), h.ob, ?_⟩
    rw [nI_clamp (by omega), nI_clamp (by omega), e1, e2, ix_tab]
    have fin : ∀ (x : Int32) (u' : PS) (S' : Nat → Int32) (I' : Nat → Nat → Int32) (m' : Nat), VM ad S' I' b u' → NT s fr m' (I' 5) (I' 6) (I' 7) (I' 8) → S' 0 = t → S' 1 = nI m' → S' 2 = nI s → (∀ i : Nat, i < 4 → I' i = I0 i) → (∀ i : Nat, 8 < i → I' i = I0 i) → IL many sz fr m' L0 (upd (I' 4) (1024 * p + a) x) (I' 5) (I' 6) p (a + 1) → m' ≤ m + 1 →
        ∃ u_26 : PS, x_is u' (ad 4) (nI (1024 * p + a)) x u_26 ∧ (∀ x8_27 : Int32, x8_27 = (nI a + 1) → ((p_M_countQuestions_L126 (ad 0) (nI many) x4 x5 (nI sz) (nI p) E (d + 1)) x8_27 u_26)) := by
      intro x u' S' I' m' h' hN' h0' h1' h2' i1' i2' hI' hb'
      obtain ⟨u1, s1, q⟩ := h'.is 4 (by decide) (by decide) rfl (j := nI (1024 * p + a)) (vp_in_nI (by show _ < 24576; omega) (by decide)) x
      rw [nI_clamp (by omega)] at q
      refine ⟨u1, s1, nm_e ?_⟩
      rw [nI_1]
      refine ih (a + 1) u1 (by omega) ⟨S', _, m', q, ?_, h0', h1', h2', fun i hi => ?_, fun i hi => ?_, ?_, by omega⟩
      · rw [up_ne _ _ (by decide), up_ne _ _ (by decide), up_ne _ _ (by decide), up_ne _ _ (by decide)]
        exact hN'
      · rw [up_ne _ _ (by omega)]; exact i1' i hi
      · rw [up_ne _ _ (by omega)]; exact i2' i hi
      · rw [up_eq, up_ne _ _ (by decide), up_ne _ _ (by decide)]
        exact hI'
    refine q_M_pair h hN h2 h1 (by omega) (fun e => ?_) (fun i j1 j2 e3 e4 hne => ?_) (fun hne hno u' S' I' h' hN' q0 q1 q2 q5 q6 q7 q8 => ?_)
    · refine fin _ u S I m h hN h0 h1 h2 i1 i2 ?_ (by omega)
      exact IL_step hsz hp (by omega) hI (fun _ _ _ z => z) (Or.inl ⟨e, rfl⟩) (fun i j1 j2 => Or.inl ⟨j2, rfl, rfl⟩)
    · refine fin _ u S I m h hN h0 h1 h2 i1 i2 ?_ (by omega)
      exact IL_step hsz hp (by omega) hI (fun _ _ _ z => z) (Or.inr ⟨hne, i, j1, j2, e3, e4, rfl⟩) (fun i j1 j2 => Or.inl ⟨j2, rfl, rfl⟩)
    · refine fin _ u' S' I' (m + 1) h' hN' (q0.trans h0) q1 q2 (fun i hi => (q7 i (by omega)).trans (i1 i hi)) (fun i hi => (q8 i hi).trans (i2 i hi)) ?_ (by omega)
      rw [q7 4 (by omega), q5, q6]
      refine IL_step hsz hp (by omega) hI (fun _ _ _ z => z.mono) (Or.inr ⟨hne, m, hN.1, by omega, pk_us, pk_us, rfl⟩) (fun i j1 j2 => ?_)
      by_cases e : i = m
      · subst e
        rw [pk_us, pk_us]
        exact Or.inr ⟨rfl, rfl, hne⟩
      · rw [pk_un e, pk_un e]
        exact Or.inl ⟨by omega, rfl, rfl⟩
theorem q_M_cq_L117 {I0 : Nat → Nat → Int32} {s fr M0 many sz : Nat} {L0 : Nat → Int32} {x4 x5 : Int32} (hmany : many ≤ 24) (hsz : sz ≤ 512) (hM : M0 + many * sz ≤ 24576) {E : PS → Prop} (hE : ∀ u' : PS, LvS ad b I0 t s fr M0 many sz L0 many 0 u' → E u') : ∀ (d p : Nat) (u : PS), p + d = many → LvS ad b I0 t s fr M0 many sz L0 p 0 u → p_M_countQuestions_L117 (ad 0) (nI many) x4 x5 (nI sz) E (d + 1) (nI p) u := by
  intro d
  induction d with
  | zero =>
    intro p u hp h
    obtain rfl : p = many := by omega
    rw [p_M_countQuestions_L117]
    exact pk_le p p (fun _ => hE u h) (fun h9 => absurd h9 (by omega)) (by rfl) (by rfl) (by omega) (by omega)
  | succ d ih =>
    intro p u hp h
    rw [p_M_countQuestions_L117]
    refine pk_le many p (fun h9 => absurd h9 (by omega)) (fun _ => ?_) (by rfl) (by rfl) (by omega) (by omega)
    refine ⟨sz + 1, q_M_cq_L126 hmany hsz hM (by omega) (fun u' h' => ?_) sz 0 u (by omega) h⟩
    unfold p_M_countQuestions_J191
    refine nm_e ?_
    rw [nI_1]
    refine ih (p + 1) u' (by omega) ?_
    obtain ⟨S, I, m, q1, q2, q3, q4, q5, q6, q7, q8, q9⟩ := h'
    refine ⟨S, I, m, q1, q2, q3, q4, q5, q6, q7, IL_next q8, ?_⟩
    rw [Nat.add_mul, Nat.one_mul]
    omega
end CQ
