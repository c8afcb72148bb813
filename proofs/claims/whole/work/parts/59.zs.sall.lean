/-! the order behind siftAll() -/
theorem posO_lt_iff {o : Nat → Nat} (ho : PO o) {i j : Nat} (hi : i < 10) (hj : j < 10) : posO o (o i) < posO o (o j) ↔ i < j := by
  rw [posO_eq ho hi rfl, posO_eq ho hj rfl]
theorem PO.same {o o' : Nat → Nat} (ho : PO o) (ho' : PO o') (h : ∀ a b : Nat, a < 10 → b < 10 → a ≠ b → posO o a < posO o b → posO o' a < posO o' b) : ∀ i : Nat, i < 10 → o i = o' i := by
  intro i
  induction i using Nat.strongRecOn with
  | _ i ih =>
    intro hi
    refine Classical.byContradiction (fun hne => ?_)
    have a1 := ho.1 i hi
    have b1 := ho'.1 i hi
    obtain ⟨q1, q2⟩ := posO_spec ho b1
    have hlt : i < posO o (o' i) := by
      rcases Nat.lt_trichotomy i (posO o (o' i)) with w | w | w
      · exact w
      · rw [← w] at q2; exact absurd q2 hne
      · have e := ih _ w q1
        rw [q2] at e
        have := ho'.2 i _ hi q1 e
        omega
    have hb := h (o i) (o' i) a1 b1 hne (by rw [posO_eq ho hi rfl]; exact hlt)
    rw [posO_eq ho' hi rfl] at hb
    obtain ⟨r1, r2⟩ := posO_spec ho' a1
    have e := ih _ hb r1
    rw [r2] at e
    have := ho.2 _ i r1 hi e
    omega
/-- where the others are when k goes to the first place -/
theorem mv0_pos {o : Nat → Nat} (ho : PO o) {k a : Nat} (hk : k < 10) (ha : a < 10) (hne : a ≠ k) : 0 < posO (mvO o k 0) a ∧ ∀ b : Nat, b < 10 → b ≠ k → a ≠ b → (posO (mvO o k 0) a < posO (mvO o k 0) b ↔ posO o a < posO o b) := by
  have ho' := mvO_PO ho hk (show 0 < 10 by omega)
  obtain ⟨p1, p2⟩ := posO_spec ho hk
  have key : ∀ c : Nat, c < 10 → c ≠ k → posO (mvO o k 0) c = if posO o c < posO o k then posO o c + 1 else posO o c := fun c hc hck => by
    obtain ⟨c1, c2⟩ := posO_spec ho hc
    have cne : posO o c ≠ posO o k := fun w => hck (by rw [← c2, w, p2])
    by_cases w : posO o c < posO o k
    · rw [if_pos w]
      refine posO_eq ho' (by omega) ?_
      unfold mvO insO
      rw [if_neg (by omega), if_neg (by omega), show posO o c + 1 - 1 = posO o c by omega]
      unfold remO
      rw [if_pos w, c2]
    · rw [if_neg w]
      refine posO_eq ho' c1 ?_
      unfold mvO insO
      rw [if_neg (by omega), if_neg (by omega)]
      unfold remO
      rw [if_neg (by omega), show posO o c - 1 + 1 = posO o c by omega, c2]
  obtain ⟨a1, a2⟩ := posO_spec ho ha
  have ane : posO o a ≠ posO o k := fun w => hne (by rw [← a2, w, p2])
  refine ⟨?_, fun b hb hbk hab => ?_⟩
  · rw [key a ha hne]; split <;> omega
  · obtain ⟨b1, b2⟩ := posO_spec ho hb
    have bne : posO o b ≠ posO o k := fun w => hbk (by rw [← b2, w, p2])
    rw [key a ha hne, key b hb hbk]
    split <;> split <;> omega
section SAL
variable {F : Nat → Nat → Bool} {kp : Nat → Nat} {o : Nat → Nat} {T : Nat → Nat} {m : Nat}
/-- the turns are those -/
theorem saN_T (hT : SRT kp 10 T m) : ∀ i : Nat, i ≤ m → (∀ k : Nat, (saN F kp o i).1 k = true ↔ ∃ j : Nat, j < i ∧ T j = k) ∧ (i < m → pickO kp (saN F kp o i).1 = T i) := by
  have hm := hT.len
  have pick : ∀ i : Nat, i < m → (∀ k : Nat, (saN F kp o i).1 k = true ↔ ∃ j : Nat, j < i ∧ T j = k) → pickO kp (saN F kp o i).1 = T i := fun i hi hd => by
    obtain ⟨b, e1, e2, b1, b2⟩ := saN_pick F kp o (n := i) (by omega)
    obtain ⟨_, _, _, g4, g5⟩ := (pkD_spec 10 (Nat.le_refl _)).2 b e1
    rw [e2]
    have hTi : (saN F kp o i).1 (T i) = false := by
      cases q : (saN F kp o i).1 (T i)
      · rfl
      · obtain ⟨j, hj, ej⟩ := (hd _).mp q
        have := hT.inj (i := j) (j := i) (by omega) hi ej
        omega
    have h1 := g4 (T i) (by omega) (hT.1 i hi).1 hTi
    obtain ⟨j, hj, ej⟩ := hT.2.2 b b1 (by have := (hT.1 i hi).2; omega)
    have hji : ¬ j < i := fun w => by
      rw [(hd b).mpr ⟨j, w, ej⟩] at b2
      exact absurd b2 (by decide)
    by_cases c : j = i
    · rw [← c, ej]
    · rcases hT.2.1 i j (by omega) hj with w | w
      · rw [ej] at w; omega
      · rw [ej] at w
        have := g5 (T i) (by omega) w.2 hTi
        omega
  intro i
  induction i with
  | zero =>
    intro _
    have h0 : ∀ k : Nat, (saN F kp o 0).1 k = true ↔ ∃ j : Nat, j < 0 ∧ T j = k := fun k => ⟨fun w => (by cases w), fun ⟨j, hj, _⟩ => by omega⟩
    exact ⟨h0, fun hi => pick 0 hi h0⟩
  | succ i ih =>
    intro hi
    obtain ⟨h1, h2⟩ := ih (by omega)
    have hp := h2 (by omega)
    have h0 : ∀ k : Nat, (saN F kp o (i + 1)).1 k = true ↔ ∃ j : Nat, j < i + 1 ∧ T j = k := fun k => by
      rw [saN, hp]
      show (if k = T i then true else (saN F kp o i).1 k) = true ↔ _
      by_cases c : k = T i
      · rw [if_pos c]; exact ⟨fun _ => ⟨i, by omega, c.symm⟩, fun _ => rfl⟩
      · rw [if_neg c, h1]
        constructor
        · rintro ⟨j, hj, e⟩; exact ⟨j, by omega, e⟩
        · rintro ⟨j, hj, e⟩
          refine ⟨j, ?_, e⟩
          by_cases d : j = i
          · subst d; exact absurd e.symm c
          · omega
    exact ⟨h0, fun hi2 => pick (i + 1) hi2 h0⟩
theorem saN_ord (hT : SRT kp 10 T m) {i : Nat} (hi : i < m) : (saN F kp o (i + 1)).2 = siftO F (saN F kp o i).2 (T i) := by
  have := (saN_T (F := F) (o := o) hT i (by omega)).2 hi
  rw [saN, this]
/-- before and behind in the end -/
def REL (kp : Nat → Nat) (om : Nat → Nat) (a b : Nat) : Prop := (kp a = 0 ∧ kp b ≠ 0) ∨ (kp a = 0 ∧ kp b = 0 ∧ b < a) ∨ (kp a ≠ 0 ∧ kp b ≠ 0 ∧ posO om a < posO om b)
theorem REL.tot {om : Nat → Nat} (ho : PO om) {a b : Nat} (ha : a < 10) (hb : b < 10) (hne : a ≠ b) : REL kp om a b ∨ REL kp om b a := by
  obtain ⟨a1, a2⟩ := posO_spec ho ha
  obtain ⟨b1, b2⟩ := posO_spec ho hb
  have pne : posO om a ≠ posO om b := fun w => hne (by rw [← a2, w, b2])
  unfold REL
  omega
theorem REL.asy {om : Nat → Nat} {a b : Nat} (h : REL kp om a b) (h2 : REL kp om b a) : False := by
  unfold REL at h h2
  omega
/-- those that are not asked come to the first place, one after the other -/
theorem saN_U (ho : PO o) (hT : SRT kp 10 T m) (hU : ∀ (o' : Nat → Nat) (k : Nat), PO o' → k < 10 → kp k = 0 → siftO F o' k = mvO o' k 0) : ∀ j : Nat, m + j ≤ 10 → (∀ k : Nat, k < 10 → kp k ≠ 0 → (saN F kp o (m + j)).1 k = true) ∧ (∀ a b : Nat, a < b → b < 10 → kp a = 0 → kp b = 0 → (saN F kp o (m + j)).1 b = true → (saN F kp o (m + j)).1 a = true) ∧ ∀ a b : Nat, a < 10 → b < 10 → a ≠ b → (posO (saN F kp o (m + j)).2 a < posO (saN F kp o (m + j)).2 b ↔ ((kp a = 0 ∧ (saN F kp o (m + j)).1 a = true) ∧ ¬ (kp b = 0 ∧ (saN F kp o (m + j)).1 b = true)) ∨ ((kp a = 0 ∧ (saN F kp o (m + j)).1 a = true) ∧ (kp b = 0 ∧ (saN F kp o (m + j)).1 b = true) ∧ b < a) ∨ (¬ (kp a = 0 ∧ (saN F kp o (m + j)).1 a = true) ∧ ¬ (kp b = 0 ∧ (saN F kp o (m + j)).1 b = true) ∧ posO (saN F kp o m).2 a < posO (saN F kp o m).2 b)) := by
  have hm := hT.len
  intro j
  induction j with
  | zero =>
    intro _
    have hd := (saN_T (F := F) (o := o) hT m (Nat.le_refl _)).1
    have nU : ∀ k : Nat, kp k = 0 → ¬ (saN F kp o m).1 k = true := fun k hk w => by
      obtain ⟨i, hi, e⟩ := (hd k).mp w
      have := (hT.1 i hi).2
      rw [e] at this
      omega
    refine ⟨fun k hk hp => ?_, fun a b _ _ _ hb w => absurd w (nU b hb), fun a b ha hb hne => ?_⟩
    · obtain ⟨i, hi, e⟩ := hT.2.2 k hk (by omega)
      exact (hd k).mpr ⟨i, hi, e⟩
    · have na : ¬ (kp a = 0 ∧ (saN F kp o (m + 0)).1 a = true) := fun w => nU a w.1 w.2
      have nb : ¬ (kp b = 0 ∧ (saN F kp o (m + 0)).1 b = true) := fun w => nU b w.1 w.2
      constructor
      · intro w; exact Or.inr (Or.inr ⟨na, nb, w⟩)
      · rintro (w | w | w)
        · exact absurd w.1 na
        · exact absurd w.1 na
        · exact w.2.2
  | succ j ih =>
    intro hj
    obtain ⟨h1, h2, h3⟩ := ih (by omega)
    obtain ⟨b, e1, e2, b1, b2⟩ := saN_pick F kp o (n := m + j) (by omega)
    obtain ⟨_, _, _, g4, g5⟩ := (pkD_spec 10 (Nat.le_refl _)).2 b e1
    have kb : kp b = 0 := Classical.byContradiction (fun w => by rw [h1 b b1 w] at b2; exact absurd b2 (by decide))
    have hpo := saN_PO (F := F) (kp := kp) ho (m + j) (by omega)
    have ed : ∀ k : Nat, (saN F kp o (m + (j + 1))).1 k = if k = b then true else (saN F kp o (m + j)).1 k := fun k => by
      rw [show m + (j + 1) = m + j + 1 by omega, saN, e2]
    have eo : (saN F kp o (m + (j + 1))).2 = mvO (saN F kp o (m + j)).2 b 0 := by
      rw [show m + (j + 1) = m + j + 1 by omega, saN, e2]
      exact hU _ b hpo b1 kb
    refine ⟨fun k hk hp => ?_, fun a c hac hc ha0 hc0 w => ?_, fun a c ha hc hne => ?_⟩
    · rw [ed]
      split
      · rfl
      · exact h1 k hk hp
    · rw [ed] at w ⊢
      by_cases qa : a = b
      · rw [if_pos qa]
      · rw [if_neg qa]
        by_cases qc : c = b
        · subst qc
          refine Classical.byContradiction (fun q => ?_)
          have := g5 a (by omega) hac (by cases hh : (saN F kp o (m + j)).1 a <;> simp_all)
          omega
        · rw [if_neg qc] at w
          exact h2 a c hac hc ha0 hc0 w
    · rw [eo]
      -- those done before b have smaller numbers
      have sm : ∀ c : Nat, c < 10 → c ≠ b → kp c = 0 → (saN F kp o (m + j)).1 c = true → c < b := fun c hc hcb hc0 w => by
        refine Classical.byContradiction (fun q => ?_)
        have := h2 b c (by omega) hc kb hc0 w
        rw [b2] at this
        exact absurd this (by decide)
      by_cases qa : a = b
      · subst qa
        have p0 := mvO_pos hpo (k := a) (to := 0) ha (by omega)
        have p1 := (mv0_pos hpo ha hc (Ne.symm hne)).1
        rw [p0, ed, if_pos rfl, ed, if_neg (Ne.symm hne)]
        refine ⟨fun _ => ?_, fun _ => p1⟩
        by_cases w : kp c = 0 ∧ (saN F kp o (m + j)).1 c = true
        · exact Or.inr (Or.inl ⟨⟨kb, rfl⟩, w, sm c hc (Ne.symm hne) w.1 w.2⟩)
        · exact Or.inl ⟨⟨kb, rfl⟩, w⟩
      · by_cases qc : c = b
        · subst qc
          have p0 := mvO_pos hpo (k := c) (to := 0) hc (by omega)
          rw [p0, ed, if_neg hne, ed, if_pos rfl]
          refine ⟨fun w => absurd w (by omega), fun w => ?_⟩
          exfalso
          rcases w with w | w | w
          · exact w.2 ⟨kb, rfl⟩
          · have := sm a ha hne w.1.1 w.1.2
            omega
          · exact w.2.1 ⟨kb, rfl⟩
        · rw [(mv0_pos hpo b1 ha qa).2 c hc qc hne, h3 a c ha hc hne, ed, if_neg qa, ed, if_neg qc]
/-- the order in the end -/
theorem saO_rel (ho : PO o) (hT : SRT kp 10 T m) (hU : ∀ (o' : Nat → Nat) (k : Nat), PO o' → k < 10 → kp k = 0 → siftO F o' k = mvO o' k 0) {f : Nat → Nat} (hf : PO f) (hr : ∀ i j : Nat, i < j → j < 10 → REL kp (saN F kp o m).2 (f i) (f j)) : ∀ i : Nat, i < 10 → f i = (saN F kp o 10).2 i := by
  have hm := hT.len
  have h10 := saN_U (F := F) ho hT hU (10 - m) (by omega)
  rw [show m + (10 - m) = 10 by omega] at h10
  obtain ⟨h1, h2, h3⟩ := h10
  have hpo := saN_PO (F := F) (kp := kp) ho 10 (Nat.le_refl _)
  obtain ⟨ff, f1, f2, f3⟩ := saN_done F kp o 10 (Nat.le_refl _)
  have all : ∀ k : Nat, k < 10 → (saN F kp o 10).1 k = true := fun k hk => by
    obtain ⟨i, hi, e⟩ := PO.sur (o := ff) ⟨f1, f2⟩ hk
    exact (f3 k).mpr ⟨i, hi, e⟩
  refine hf.same hpo (fun a b ha hb hne w => ?_)
  obtain ⟨a1, a2⟩ := posO_spec hf ha
  obtain ⟨b1, b2⟩ := posO_spec hf hb
  have q := hr _ _ w b1
  rw [a2, b2] at q
  rw [h3 a b ha hb hne, all a ha, all b hb]
  rcases q with q | q | q
  · exact Or.inl ⟨⟨q.1, rfl⟩, fun w2 => q.2 w2.1⟩
  · exact Or.inr (Or.inl ⟨⟨q.1, rfl⟩, ⟨q.2.1, rfl⟩, q.2.2⟩)
  · exact Or.inr (Or.inr ⟨fun w2 => q.1 w2.1, fun w2 => q.2.1 w2.1, q.2.2⟩)
end SAL
