/-! the reference: a level of the count -/
def IDOf (fr m : Nat) (lo hi : Nat → Int32) (l h x : Int32) : Prop := (l = h ∧ x = l) ∨ (l ≠ h ∧ ∃ i : Nat, fr ≤ i ∧ i < m ∧ lo i = l ∧ hi i = h ∧ x = nI (2 + i))
/-- (p', a') comes before (p, a) -/
def bfr (p a p' a' : Nat) : Prop := p' < p ∨ (p' = p ∧ a' < a)
/-- in a level: those before (p, a) are done -/
def IL (many sz fr m : Nat) (L0 L lo hi : Nat → Int32) (p a : Nat) : Prop :=
  (∀ p' c : Nat, p' < many → c < 2 * sz → (p < p' ∨ (p' = p ∧ a ≤ c)) → L (1024 * p' + c) = L0 (1024 * p' + c)) ∧
  (∀ p' a' : Nat, p' < many → a' < sz → bfr p a p' a' → IDOf fr m lo hi (L0 (1024 * p' + 2 * a')) (L0 (1024 * p' + 2 * a' + 1)) (L (1024 * p' + a'))) ∧
  (∀ i : Nat, fr ≤ i → i < m → ∃ p' a' : Nat, p' < many ∧ a' < sz ∧ bfr p a p' a' ∧ lo i = L0 (1024 * p' + 2 * a') ∧ hi i = L0 (1024 * p' + 2 * a' + 1) ∧ lo i ≠ hi i)
theorem IL_0 {many sz fr : Nat} {L lo hi : Nat → Int32} : IL many sz fr fr L L lo hi 0 0 :=
  ⟨fun _ _ _ _ _ => rfl, fun p' a' _ _ h => by unfold bfr at h; omega, fun i h1 h2 => by omega⟩
theorem IL_next {many sz fr m : Nat} {L0 L lo hi : Nat → Int32} {p : Nat} (h : IL many sz fr m L0 L lo hi p sz) : IL many sz fr m L0 L lo hi (p + 1) 0 := by
  obtain ⟨h1, h2, h3⟩ := h
  refine ⟨fun p' c hp hc hb => h1 p' c hp hc (Or.inl (by omega)), fun p' a' hp ha hb => h2 p' a' hp ha ?_, fun i a1 a2 => ?_⟩
  · unfold bfr at hb ⊢
    omega
  · obtain ⟨p', a', q1, q2, q3, q4⟩ := h3 i a1 a2
    refine ⟨p', a', q1, q2, ?_, q4⟩
    unfold bfr at q3 ⊢
    omega
theorem IDOf.mono {fr m : Nat} {lo hi : Nat → Int32} {l h x l' h' : Int32} (hid : IDOf fr m lo hi l h x) : IDOf fr (m + 1) (upd lo m l') (upd hi m h') l h x := by
  rcases hid with q | ⟨q, i, i1, i2, e1, e2, e3⟩
  · exact Or.inl q
  · exact Or.inr ⟨q, i, i1, by omega, by rw [pk_un (by omega)]; exact e1, by rw [pk_un (by omega)]; exact e2, e3⟩
theorem IL_step {many sz fr m m' : Nat} {L0 L lo hi lo' hi' : Nat → Int32} {p a : Nat} (hsz : sz ≤ 512) (hp : p < many) (ha : a < sz) (h : IL many sz fr m L0 L lo hi p a) {x : Int32}
    (hmono : ∀ l r y : Int32, IDOf fr m lo hi l r y → IDOf fr m' lo' hi' l r y)
    (hx : IDOf fr m' lo' hi' (L0 (1024 * p + 2 * a)) (L0 (1024 * p + 2 * a + 1)) x)
    (hC : ∀ i : Nat, fr ≤ i → i < m' → (i < m ∧ lo' i = lo i ∧ hi' i = hi i) ∨ (lo' i = L0 (1024 * p + 2 * a) ∧ hi' i = L0 (1024 * p + 2 * a + 1) ∧ lo' i ≠ hi' i)) :
    IL many sz fr m' L0 (upd L (1024 * p + a) x) lo' hi' p (a + 1) := by
  obtain ⟨h1, h2, h3⟩ := h
  refine ⟨fun p' c hp' hc hb => ?_, fun p' a' hp' ha' hb => ?_, fun i i1 i2 => ?_⟩
  · rw [pk_un (by omega)]
    exact h1 p' c hp' hc (by omega)
  · by_cases e : p' = p ∧ a' = a
    · obtain ⟨rfl, rfl⟩ := e
      rw [pk_us]
      exact hx
    · rw [pk_un (by omega)]
      refine hmono _ _ _ (h2 p' a' hp' ha' ?_)
      unfold bfr at hb ⊢
      omega
  · rcases hC i i1 i2 with ⟨q1, q2, q3⟩ | ⟨q1, q2, q3⟩
    · obtain ⟨p', a', r1, r2, r3, r4, r5, r6⟩ := h3 i i1 q1
      refine ⟨p', a', r1, r2, ?_, by rw [q2]; exact r4, by rw [q3]; exact r5, by rw [q2, q3]; exact r6⟩
      unfold bfr at r3 ⊢
      omega
    · exact ⟨p, a, hp, ha, Or.inr ⟨rfl, by omega⟩, q1, q2, q3⟩
/-- ids: alike where what is left is alike -/
def LV (F : Nat → Nat → Bool) (o : Nat → Nat) (first many j m : Nat) (L : Nat → Int32) : Prop :=
  (∀ p a : Nat, p < many → a < 2 ^ j → ∃ id : Nat, id < m + 2 ∧ L (1024 * p + a) = nI id) ∧
  ∀ p a p' a' : Nat, p < many → a < 2 ^ j → p' < many → a' < 2 ^ j → (L (1024 * p + a) = L (1024 * p' + a') ↔ Rs F o j (first + p) a = Rs F o j (first + p') a')
theorem LV_step {F : Nat → Nat → Bool} {o : Nat → Nat} (ho : PO o) {first many j fr m : Nat} {L0 L lo hi : Nat → Int32} (hj : j < 10) (hm : m ≤ 24576) (hfr : fr ≤ m) (hL : LV F o first many (j + 1) fr L0) (hI : IL many (2 ^ j) fr m L0 L lo hi many 0)
    (hd : ∀ i i' : Nat, fr ≤ i → i < m → fr ≤ i' → i' < m → lo i = lo i' → hi i = hi i' → i = i') :
    LV F o first many j m L ∧ Cnt (QP (fun p => ∃ q : Nat, q < many ∧ p = first + q) F (bef o j) (o j)) (m - fr) := by
  obtain ⟨l1, l2⟩ := hL
  obtain ⟨-, h2, h3⟩ := hI
  have e2 : 2 ^ (j + 1) = 2 * 2 ^ j := by rw [Nat.pow_succ]; omega
  rw [e2] at l1 l2
  have hid : ∀ p a : Nat, p < many → a < 2 ^ j → IDOf fr m lo hi (L0 (1024 * p + 2 * a)) (L0 (1024 * p + 2 * a + 1)) (L (1024 * p + a)) := fun p a hp ha => h2 p a hp ha (Or.inl hp)
  have hlow : ∀ p a : Nat, p < many → a < 2 ^ j → ∃ id : Nat, id < fr + 2 ∧ L0 (1024 * p + 2 * a) = nI id := fun p a hp ha => l1 p (2 * a) hp (by omega)
  -- dependence
  have hdep : ∀ p a : Nat, p < many → a < 2 ^ j → (dep (Rs F o j (first + p) a) (o j) ↔ L0 (1024 * p + 2 * a) ≠ L0 (1024 * p + 2 * a + 1)) := fun p a hp ha => by
    rw [Rs_dep ho hj]
    have := l2 p (2 * a) p (2 * a + 1) hp (by omega) hp (by omega)
    rw [show 1024 * p + (2 * a + 1) = 1024 * p + 2 * a + 1 by omega] at this
    exact not_congr this.symm
  -- alike
  have hres : ∀ p a p' a' : Nat, p < many → a < 2 ^ j → p' < many → a' < 2 ^ j → (Rs F o j (first + p) a = Rs F o j (first + p') a' ↔ L0 (1024 * p + 2 * a) = L0 (1024 * p' + 2 * a') ∧ L0 (1024 * p + 2 * a + 1) = L0 (1024 * p' + 2 * a' + 1)) := fun p a p' a' hp ha hp' ha' => by
    rw [Rs_eq ho hj, ← l2 p (2 * a) p' (2 * a') hp (by omega) hp' (by omega), ← l2 p (2 * a + 1) p' (2 * a' + 1) hp (by omega) hp' (by omega)]
    rw [show 1024 * p + (2 * a + 1) = 1024 * p + 2 * a + 1 by omega, show 1024 * p' + (2 * a' + 1) = 1024 * p' + 2 * a' + 1 by omega]
  have heq : ∀ p a p' a' : Nat, p < many → a < 2 ^ j → p' < many → a' < 2 ^ j → (L (1024 * p + a) = L (1024 * p' + a') ↔ Rs F o j (first + p) a = Rs F o j (first + p') a') := by
    intro p a p' a' hp ha hp' ha'
    rw [hres p a p' a' hp ha hp' ha']
    obtain ⟨d1, k1, n1⟩ := hlow p a hp ha
    obtain ⟨d2, k2, n2⟩ := hlow p' a' hp' ha'
    rcases hid p a hp ha with ⟨q1, q2⟩ | ⟨q1, i, i1, i2, i3, i4, i5⟩ <;> rcases hid p' a' hp' ha' with ⟨r1, r2⟩ | ⟨r1, i', i1', i2', i3', i4', i5'⟩
    · rw [q2, r2, ← q1, ← r1]
      exact ⟨fun z => ⟨z, z⟩, fun z => z.1⟩
    · constructor
      · intro z
        rw [q2, i5', n1] at z
        have := (nI_eq (by omega) (by omega)).mp z
        omega
      · rintro ⟨z1, z2⟩
        exact absurd (by rw [← z1, ← z2, q1]) r1
    · constructor
      · intro z
        rw [r2, i5, n2] at z
        have := (nI_eq (by omega) (by omega)).mp z
        omega
      · rintro ⟨z1, z2⟩
        exact absurd (by rw [z1, z2, r1]) q1
    · constructor
      · intro z
        rw [i5, i5'] at z
        have := (nI_eq (by omega) (by omega)).mp z
        have : i = i' := by omega
        subst this
        exact ⟨i3.symm.trans i3', i4.symm.trans i4'⟩
      · rintro ⟨z1, z2⟩
        have := hd i i' i1 i2 i1' i2' (by rw [i3, i3', z1]) (by rw [i4, i4', z2])
        subst this
        rw [i5, i5']
  refine ⟨⟨fun p a hp ha => ?_, heq⟩, ?_⟩
  · rcases hid p a hp ha with ⟨q1, q2⟩ | ⟨q1, i, i1, i2, i3, i4, i5⟩
    · obtain ⟨d1, k1, n1⟩ := hlow p a hp ha
      exact ⟨d1, by omega, by rw [q2]; exact n1⟩
    · exact ⟨2 + i, by omega, i5⟩
  · -- the count
    have c : ∀ i : Nat, ∃ pa : Nat × Nat, i < m - fr → pa.1 < many ∧ pa.2 < 2 ^ j ∧ lo (fr + i) = L0 (1024 * pa.1 + 2 * pa.2) ∧ hi (fr + i) = L0 (1024 * pa.1 + 2 * pa.2 + 1) ∧ lo (fr + i) ≠ hi (fr + i) := fun i => by
      by_cases hi : i < m - fr
      · obtain ⟨p', a', r1, r2, r3, r4, r5, r6⟩ := h3 (fr + i) (by omega) (by omega)
        exact ⟨(p', a'), fun _ => ⟨r1, r2, r4, r5, r6⟩⟩
      · exact ⟨(0, 0), fun z => absurd z hi⟩
    have cs : ∀ i : Nat, i < m - fr → _ := fun i => Classical.choose_spec (c i)
    refine ⟨fun i => Rs F o j (first + (Classical.choose (c i)).1) (Classical.choose (c i)).2, fun i i' hi hi' e => ?_, fun i hi => ?_, fun g hg => ?_⟩
    · obtain ⟨a1, a2, a3, a4, a5⟩ := cs i hi
      obtain ⟨b1, b2, b3, b4, b5⟩ := cs i' hi'
      obtain ⟨z1, z2⟩ := (hres _ _ _ _ a1 a2 b1 b2).mp e
      have := hd (fr + i) (fr + i') (by omega) (by omega) (by omega) (by omega) (by rw [a3, b3, z1]) (by rw [a4, b4, z2])
      omega
    · obtain ⟨a1, a2, a3, a4, a5⟩ := cs i hi
      refine ⟨⟨_, ⟨_, a1, rfl⟩, _, rfl⟩, ?_⟩
      refine (hdep _ _ a1 a2).mpr ?_
      rw [← a3, ← a4]
      exact a5
    · obtain ⟨⟨p, ⟨q, hq, rfl⟩, a, rfl⟩, hd2⟩ := hg
      obtain ⟨w, hw, ew⟩ := Rs_all (F := F) ho (j := j) (by omega) (first + q) a
      rw [ew] at hd2 ⊢
      have hne := (hdep q w hq hw).mp hd2
      rcases hid q w hq hw with ⟨q1, q2⟩ | ⟨q1, i, i1, i2, i3, i4, i5⟩
      · exact absurd q1 hne
      · refine ⟨i - fr, by omega, ?_⟩
        obtain ⟨a1, a2, a3, a4, a5⟩ := cs (i - fr) (by omega)
        have hfi : fr + (i - fr) = i := by omega
        exact (hres _ _ _ _ a1 a2 hq hw).mpr ⟨a3.symm.trans ((congrArg lo hfi).trans i3), a4.symm.trans ((congrArg hi hfi).trans i4)⟩
theorem LV_10 {F : Nat → Nat → Bool} {o : Nat → Nat} (ho : PO o) {first many : Nat} {L : Nat → Int32} (h : ∀ p w : Nat, p < many → w < 1024 → L (1024 * p + w) = bI (F (first + p) (numT (pre o w 10) 10))) : LV F o first many 10 0 L := by
  refine ⟨fun p a hp ha => ?_, fun p a p' a' hp ha hp' ha' => ?_⟩
  · rw [h p a hp ha]
    cases F (first + p) (numT (pre o a 10) 10)
    · exact ⟨0, by omega, rfl⟩
    · exact ⟨1, by omega, rfl⟩
  · rw [h p a hp ha, h p' a' hp' ha', bI_inj, Rs_end ho, Rs_end ho]
    exact ⟨fun z => by rw [z], fun z => congrFun z (fun _ => false)⟩
