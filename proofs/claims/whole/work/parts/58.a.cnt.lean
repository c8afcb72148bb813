/-! how many there are: a one-to-one numbering from 0 on -/
theorem no_inj : ∀ (n m : Nat) (f : Nat → Nat), n < m → (∀ i : Nat, i < m → f i < n) → (∀ i j : Nat, i < m → j < m → f i = f j → i = j) → False := by
  intro n
  induction n with
  | zero => intro m f h1 h2 _; exact absurd (h2 0 (by omega)) (Nat.not_lt_zero _)
  | succ n ih =>
    intro m f h1 h2 h3
    obtain ⟨m', rfl⟩ : ∃ m', m = m' + 1 := ⟨m - 1, by omega⟩
    refine ih m' (fun i => if f i = n then f m' else f i) (by omega) ?_ ?_
    · intro i hi
      have a := h2 i (by omega)
      have b := h2 m' (by omega)
      show (if f i = n then f m' else f i) < n
      by_cases e : f i = n
      · rw [if_pos e]
        have : f m' ≠ n := fun e2 => by
          have := h3 i m' (by omega) (by omega) (e.trans e2.symm)
          omega
        omega
      · rw [if_neg e]; omega
    · intro i j hi hj e
      have e : (if f i = n then f m' else f i) = (if f j = n then f m' else f j) := e
      by_cases e1 : f i = n <;> by_cases e2 : f j = n
      · exact h3 i j (by omega) (by omega) (e1.trans e2.symm)
      · rw [if_pos e1, if_neg e2] at e
        have := h3 m' j (by omega) (by omega) e; omega
      · rw [if_neg e1, if_pos e2] at e
        have := h3 i m' (by omega) (by omega) e; omega
      · rw [if_neg e1, if_neg e2] at e
        exact h3 i j (by omega) (by omega) e
def Cnt {α : Type} (P : α → Prop) (n : Nat) : Prop := ∃ f : Nat → α, (∀ i j : Nat, i < n → j < n → f i = f j → i = j) ∧ (∀ i : Nat, i < n → P (f i)) ∧ ∀ x : α, P x → ∃ i : Nat, i < n ∧ f i = x
/-- fewer or as many: a map that is one to one -/
theorem Cnt.le_of_inj {α β : Type} {P : α → Prop} {Q : β → Prop} {n m : Nat} (hP : Cnt P n) (hQ : Cnt Q m) (g : α → β) (hg : ∀ x : α, P x → Q (g x)) (hi : ∀ x y : α, P x → P y → g x = g y → x = y) : n ≤ m := by
  obtain ⟨f, f1, f2, f3⟩ := hP
  obtain ⟨h, h1, h2, h3⟩ := hQ
  refine Nat.le_of_not_lt (fun hlt => ?_)
  have c : ∀ i : Nat, ∃ j : Nat, i < n → (j < m ∧ h j = g (f i)) := fun i => by
    by_cases hin : i < n
    · obtain ⟨j, hj, e⟩ := h3 _ (hg _ (f2 i hin))
      exact ⟨j, fun _ => ⟨hj, e⟩⟩
    · exact ⟨0, fun z => absurd z hin⟩
  refine no_inj m n (fun i => Classical.choose (c i)) hlt (fun i hin => (Classical.choose_spec (c i) hin).1) (fun i j hin hjn e => ?_)
  have e1 := (Classical.choose_spec (c i) hin).2
  have e2 := (Classical.choose_spec (c j) hjn).2
  have e : Classical.choose (c i) = Classical.choose (c j) := e
  rw [e] at e1
  exact f1 i j hin hjn (hi _ _ (f2 i hin) (f2 j hjn) (e1.symm.trans e2))
theorem Cnt.uniq {α : Type} {P : α → Prop} {n m : Nat} (h1 : Cnt P n) (h2 : Cnt P m) : n = m :=
  Nat.le_antisymm (h1.le_of_inj h2 (fun x => x) (fun _ h => h) (fun _ _ _ _ e => e)) (h2.le_of_inj h1 (fun x => x) (fun _ h => h) (fun _ _ _ _ e => e))
theorem Cnt.congr {α : Type} {P Q : α → Prop} {n : Nat} (h : Cnt P n) (e : ∀ x : α, P x ↔ Q x) : Cnt Q n := by
  obtain ⟨f, f1, f2, f3⟩ := h
  exact ⟨f, f1, fun i hi => (e _).mp (f2 i hi), fun x hx => f3 x ((e x).mpr hx)⟩
theorem Cnt.mono {α : Type} {P Q : α → Prop} {n m : Nat} (h1 : Cnt P n) (h2 : Cnt Q m) (h : ∀ x : α, P x → Q x) : n ≤ m := h1.le_of_inj h2 (fun x => x) h (fun _ _ _ _ e => e)
/-- as many: one to one and onto -/
theorem Cnt.map {α β : Type} {P : α → Prop} {Q : β → Prop} {n : Nat} (h : Cnt P n) (g : α → β) (hg : ∀ x : α, P x → Q (g x)) (hi : ∀ x y : α, P x → P y → g x = g y → x = y) (hs : ∀ y : β, Q y → ∃ x : α, P x ∧ g x = y) : Cnt Q n := by
  obtain ⟨f, f1, f2, f3⟩ := h
  refine ⟨fun i => g (f i), fun i j hin hjn e => f1 i j hin hjn (hi _ _ (f2 i hin) (f2 j hjn) e), fun i hin => hg _ (f2 i hin), fun y hy => ?_⟩
  obtain ⟨x, hx, e⟩ := hs y hy
  obtain ⟨i, hin, e2⟩ := f3 x hx
  exact ⟨i, hin, by dsimp only; rw [e2]; exact e⟩
theorem Cnt.zero {α : Type} [Inhabited α] {P : α → Prop} (h : ∀ x : α, ¬ P x) : Cnt P 0 := ⟨fun _ => default, fun i _ hi => absurd hi (by omega), fun i hi => absurd hi (by omega), fun x hx => absurd hx (h x)⟩
theorem Cnt.empty {α : Type} {P : α → Prop} (h : Cnt P 0) (x : α) : ¬ P x := fun hx => by
  obtain ⟨f, _, _, f3⟩ := h
  obtain ⟨i, hi, _⟩ := f3 x hx
  omega
/-- one more -/
theorem Cnt.add {α : Type} {P Q : α → Prop} {n : Nat} (h : Cnt P n) (a : α) (ha : ¬ P a) (e : ∀ x : α, Q x ↔ P x ∨ x = a) : Cnt Q (n + 1) := by
  obtain ⟨f, f1, f2, f3⟩ := h
  refine ⟨fun i => if i < n then f i else a, fun i j hi hj eq => ?_, fun i hi => ?_, fun x hx => ?_⟩
  · have eq : (if i < n then f i else a) = (if j < n then f j else a) := eq
    by_cases h1 : i < n <;> by_cases h2 : j < n
    · rw [if_pos h1, if_pos h2] at eq; exact f1 i j h1 h2 eq
    · rw [if_pos h1, if_neg h2] at eq; exact absurd (eq ▸ f2 i h1) ha
    · rw [if_neg h1, if_pos h2] at eq; exact absurd (eq ▸ f2 j h2) ha
    · omega
  · show Q (if i < n then f i else a)
    by_cases h1 : i < n
    · rw [if_pos h1]; exact (e _).mpr (Or.inl (f2 i h1))
    · rw [if_neg h1]; exact (e _).mpr (Or.inr rfl)
  · rcases (e x).mp hx with h1 | h1
    · obtain ⟨i, hi, e1⟩ := f3 x h1
      exact ⟨i, by omega, by dsimp only; rw [if_pos hi]; exact e1⟩
    · exact ⟨n, by omega, by dsimp only; rw [if_neg (by omega)]; exact h1.symm⟩
/-- one fewer -/
theorem Cnt.sub {α : Type} {P Q : α → Prop} {n : Nat} (h : Cnt Q n) (a : α) (ha : Q a) (e : ∀ x : α, P x ↔ Q x ∧ x ≠ a) : 0 < n ∧ Cnt P (n - 1) := by
  obtain ⟨f, f1, f2, f3⟩ := h
  obtain ⟨k, hk, ek⟩ := f3 a ha
  refine ⟨by omega, fun i => if i < k then f i else f (i + 1), fun i j hi hj eq => ?_, fun i hi => ?_, fun x hx => ?_⟩
  · have eq : (if i < k then f i else f (i + 1)) = (if j < k then f j else f (j + 1)) := eq
    by_cases h1 : i < k <;> by_cases h2 : j < k
    · rw [if_pos h1, if_pos h2] at eq; exact f1 i j (by omega) (by omega) eq
    · rw [if_pos h1, if_neg h2] at eq; have := f1 i (j + 1) (by omega) (by omega) eq; omega
    · rw [if_neg h1, if_pos h2] at eq; have := f1 (i + 1) j (by omega) (by omega) eq; omega
    · rw [if_neg h1, if_neg h2] at eq; have := f1 (i + 1) (j + 1) (by omega) (by omega) eq; omega
  · show P (if i < k then f i else f (i + 1))
    by_cases h1 : i < k
    · rw [if_pos h1]
      refine (e _).mpr ⟨f2 i (by omega), fun z => ?_⟩
      have := f1 i k (by omega) hk (z.trans ek.symm); omega
    · rw [if_neg h1]
      refine (e _).mpr ⟨f2 (i + 1) (by omega), fun z => ?_⟩
      have := f1 (i + 1) k (by omega) hk (z.trans ek.symm); omega
  · obtain ⟨h1, h2⟩ := (e x).mp hx
    obtain ⟨i, hi, e1⟩ := f3 x h1
    have hik : i ≠ k := fun z => h2 (by rw [← e1, z, ek])
    by_cases h3 : i < k
    · exact ⟨i, by omega, by dsimp only; rw [if_pos h3]; exact e1⟩
    · refine ⟨i - 1, by omega, ?_⟩
      dsimp only
      rw [if_neg (by omega), show i - 1 + 1 = i by omega]; exact e1
/-- there is a number of them where finitely many hold them -/
theorem Cnt.ex {α : Type} : ∀ (N : Nat) (f : Nat → α) (P : α → Prop), (∀ x : α, P x → ∃ i : Nat, i < N ∧ f i = x) → ∃ n : Nat, n ≤ N ∧ Cnt P n := by
  intro N
  induction N with
  | zero =>
    intro f P h
    refine ⟨0, Nat.le_refl _, f, fun i _ hi => absurd hi (by omega), fun i hi => absurd hi (by omega), fun x hx => ?_⟩
    obtain ⟨i, hi, _⟩ := h x hx
    omega
  | succ N ih =>
    intro f P h
    by_cases c : P (f N)
    · obtain ⟨n, hn, h1⟩ := ih f (fun x => P x ∧ x ≠ f N) (fun x hx => by
        obtain ⟨i, hi, e⟩ := h x hx.1
        refine ⟨i, ?_, e⟩
        have : i ≠ N := fun z => hx.2 (by rw [← e, z])
        omega)
      refine ⟨n + 1, by omega, h1.add (f N) (fun z => z.2 rfl) (fun x => ?_)⟩
      constructor
      · intro hx
        by_cases e : x = f N
        · exact Or.inr e
        · exact Or.inl ⟨hx, e⟩
      · rintro (z | z)
        · exact z.1
        · rw [z]; exact c
    · obtain ⟨n, hn, h1⟩ := ih f P (fun x hx => by
        obtain ⟨i, hi, e⟩ := h x hx
        refine ⟨i, ?_, e⟩
        have : i ≠ N := fun z => c (by rw [← z, e]; exact hx)
        omega)
      exact ⟨n, by omega, h1⟩
/-- two heaps -/
theorem Cnt.union {α : Type} {P Q : α → Prop} {n m : Nat} (h1 : Cnt P n) (h2 : Cnt Q m) (hd : ∀ x : α, P x → ¬ Q x) : Cnt (fun x => P x ∨ Q x) (n + m) := by
  obtain ⟨f, f1, f2, f3⟩ := h1
  obtain ⟨g, g1, g2, g3⟩ := h2
  refine ⟨fun i => if i < n then f i else g (i - n), fun i j hi hj eq => ?_, fun i hi => ?_, fun x hx => ?_⟩
  · have eq : (if i < n then f i else g (i - n)) = (if j < n then f j else g (j - n)) := eq
    by_cases c1 : i < n <;> by_cases c2 : j < n
    · rw [if_pos c1, if_pos c2] at eq; exact f1 i j c1 c2 eq
    · rw [if_pos c1, if_neg c2] at eq
      exact absurd (g2 (j - n) (by omega)) (hd _ (eq ▸ f2 i c1))
    · rw [if_neg c1, if_pos c2] at eq
      exact absurd (g2 (i - n) (by omega)) (hd _ (eq ▸ f2 j c2))
    · rw [if_neg c1, if_neg c2] at eq
      have := g1 (i - n) (j - n) (by omega) (by omega) eq
      omega
  · show P (if i < n then f i else g (i - n)) ∨ Q (if i < n then f i else g (i - n))
    by_cases c : i < n
    · rw [if_pos c]; exact Or.inl (f2 i c)
    · rw [if_neg c]; exact Or.inr (g2 (i - n) (by omega))
  · rcases hx with hx | hx
    · obtain ⟨i, hi, e⟩ := f3 x hx
      exact ⟨i, by omega, by dsimp only; rw [if_pos hi]; exact e⟩
    · obtain ⟨i, hi, e⟩ := g3 x hx
      exact ⟨n + i, by omega, by dsimp only; rw [if_neg (by omega), show n + i - n = i by omega]; exact e⟩
/-- the number, where there is one -/
noncomputable def cn {α : Type} (P : α → Prop) : Nat := Classical.epsilon (fun n => Cnt P n)
theorem cn_eq {α : Type} {P : α → Prop} {n : Nat} (h : Cnt P n) : cn P = n := (Classical.epsilon_spec (p := fun n => Cnt P n) ⟨n, h⟩).uniq h
theorem cn_of {α : Type} {P : α → Prop} {n : Nat} (h : Cnt P n) : Cnt P (cn P) := by rw [cn_eq h]; exact h
/-- onto: no more than as many -/
theorem Cnt.le_of_sur {α β : Type} {P : α → Prop} {Q : β → Prop} {n m : Nat} (hP : Cnt P n) (hQ : Cnt Q m) (g : α → β) (hs : ∀ y : β, Q y → ∃ x : α, P x ∧ g x = y) : m ≤ n := by
  have c : ∀ y : β, ∃ x : α, Q y → P x ∧ g x = y := fun y => by
    by_cases h : Q y
    · obtain ⟨x, hx⟩ := hs y h
      exact ⟨x, fun _ => hx⟩
    · obtain ⟨f, _⟩ := hP
      exact ⟨f 0, fun z => absurd z h⟩
  refine hQ.le_of_inj hP (fun y => Classical.choose (c y)) (fun y hy => (Classical.choose_spec (c y) hy).1) (fun x y hx hy e => ?_)
  have e1 := (Classical.choose_spec (c x) hx).2
  have e2 := (Classical.choose_spec (c y) hy).2
  have e : Classical.choose (c x) = Classical.choose (c y) := e
  rw [← e1, ← e2, e]
