/-! orders: moving an input; sifting -/
def scan (o : Nat → Nat) (k : Nat) : Nat → Nat → Nat
  | 0, i => i
  | d + 1, i => if o i = k then i else scan o k d (i + 1)
def posO (o : Nat → Nat) (k : Nat) : Nat := scan o k 9 0
theorem scan_eq {o : Nat → Nat} {k i : Nat} (hi : o i = k) : ∀ (d j : Nat), j ≤ i → i ≤ j + d → (∀ l : Nat, j ≤ l → l < i → o l ≠ k) → scan o k d j = i := by
  intro d
  induction d with
  | zero => intro j h1 h2 _; rw [scan]; omega
  | succ d ih =>
    intro j h1 h2 h3
    rw [scan]
    by_cases e : j = i
    · subst e; rw [if_pos hi]
    · rw [if_neg (h3 j (Nat.le_refl _) (by omega))]
      exact ih (j + 1) (by omega) (by omega) (fun l q1 q2 => h3 l (by omega) q2)
theorem posO_eq {o : Nat → Nat} (ho : PO o) {k i : Nat} (hi : i < 10) (e : o i = k) : posO o k = i :=
  scan_eq e 9 0 (by omega) (by omega) (fun l _ q z => by have := ho.2 l i (by omega) hi (z.trans e.symm); omega)
theorem posO_spec {o : Nat → Nat} (ho : PO o) {k : Nat} (hk : k < 10) : posO o k < 10 ∧ o (posO o k) = k := by
  obtain ⟨i, hi, e⟩ := ho.sur hk
  rw [posO_eq ho hi e]
  exact ⟨hi, e⟩
def remO (o : Nat → Nat) (at' : Nat) : Nat → Nat := fun i => if i < at' then o i else o (i + 1)
def insO (o : Nat → Nat) (to k : Nat) : Nat → Nat := fun i => if i < to then o i else if i = to then k else o (i - 1)
def mvO (o : Nat → Nat) (k to : Nat) : Nat → Nat := insO (remO o (posO o k)) to k
/-- nine inputs in a row, k none of them -/
def PR9 (r : Nat → Nat) (k : Nat) : Prop := (∀ i : Nat, i < 9 → r i < 10 ∧ r i ≠ k) ∧ ∀ i j : Nat, i < 9 → j < 9 → r i = r j → i = j
theorem remO_PR9 {o : Nat → Nat} (ho : PO o) {k : Nat} (hk : k < 10) : PR9 (remO o (posO o k)) k := by
  obtain ⟨h1, h2⟩ := posO_spec ho hk
  refine ⟨fun i hi => ?_, fun i j hi hj e => ?_⟩
  · unfold remO
    by_cases c : i < posO o k
    · rw [if_pos c]
      exact ⟨ho.1 i (by omega), fun z => by have := ho.2 i _ (by omega) h1 (z.trans h2.symm); omega⟩
    · rw [if_neg c]
      exact ⟨ho.1 (i + 1) (by omega), fun z => by have := ho.2 (i + 1) _ (by omega) h1 (z.trans h2.symm); omega⟩
  · unfold remO at e
    by_cases c : i < posO o k <;> by_cases d : j < posO o k
    · rw [if_pos c, if_pos d] at e; exact ho.2 i j (by omega) (by omega) e
    · rw [if_pos c, if_neg d] at e; have := ho.2 i (j + 1) (by omega) (by omega) e; omega
    · rw [if_neg c, if_pos d] at e; have := ho.2 (i + 1) j (by omega) (by omega) e; omega
    · rw [if_neg c, if_neg d] at e; have := ho.2 (i + 1) (j + 1) (by omega) (by omega) e; omega
theorem insO_PO {r : Nat → Nat} {k to : Nat} (hr : PR9 r k) (hk : k < 10) (ht : to < 10) : PO (insO r to k) := by
  refine ⟨fun i hi => ?_, fun i j hi hj e => ?_⟩
  · unfold insO
    by_cases c : i < to
    · rw [if_pos c]; exact (hr.1 i (by omega)).1
    · rw [if_neg c]
      by_cases d : i = to
      · rw [if_pos d]; exact hk
      · rw [if_neg d]; exact (hr.1 (i - 1) (by omega)).1
  · unfold insO at e
    by_cases c : i < to
    · rw [if_pos c] at e
      by_cases c' : j < to
      · rw [if_pos c'] at e; exact hr.2 i j (by omega) (by omega) e
      · rw [if_neg c'] at e
        by_cases d' : j = to
        · rw [if_pos d'] at e; exact absurd e (hr.1 i (by omega)).2
        · rw [if_neg d'] at e; have := hr.2 i (j - 1) (by omega) (by omega) e; omega
    · rw [if_neg c] at e
      by_cases d : i = to
      · rw [if_pos d] at e
        by_cases c' : j < to
        · rw [if_pos c'] at e; exact absurd e.symm (hr.1 j (by omega)).2
        · rw [if_neg c'] at e
          by_cases d' : j = to
          · omega
          · rw [if_neg d'] at e; exact absurd e.symm (hr.1 (j - 1) (by omega)).2
      · rw [if_neg d] at e
        by_cases c' : j < to
        · rw [if_pos c'] at e; have := hr.2 (i - 1) j (by omega) (by omega) e; omega
        · rw [if_neg c'] at e
          by_cases d' : j = to
          · rw [if_pos d'] at e; exact absurd e (hr.1 (i - 1) (by omega)).2
          · rw [if_neg d'] at e; have := hr.2 (i - 1) (j - 1) (by omega) (by omega) e; omega
theorem mvO_PO {o : Nat → Nat} (ho : PO o) {k to : Nat} (hk : k < 10) (ht : to < 10) : PO (mvO o k to) := insO_PO (remO_PR9 ho hk) hk ht
theorem insO_at (r : Nat → Nat) (to k : Nat) : insO r to k to = k := by
  unfold insO
  rw [if_neg (by omega), if_pos rfl]
theorem rem_ins (r : Nat → Nat) (to k i : Nat) : remO (insO r to k) to i = r i := by
  unfold remO insO
  by_cases c : i < to
  · rw [if_pos c, if_pos c]
  · rw [if_neg c, if_neg (by omega), if_neg (by omega), Nat.add_sub_cancel]
theorem mvO_pos {o : Nat → Nat} (ho : PO o) {k to : Nat} (hk : k < 10) (ht : to < 10) : posO (mvO o k to) k = to := posO_eq (mvO_PO ho hk ht) ht (insO_at _ _ _)
theorem mvO_mvO {o : Nat → Nat} (ho : PO o) {k t t' : Nat} (hk : k < 10) (ht : t < 10) : mvO (mvO o k t) k t' = mvO o k t' := by
  have e := mvO_pos ho hk ht
  unfold mvO at e ⊢
  rw [e]
  have : remO (insO (remO o (posO o k)) t k) t = remO o (posO o k) := by
    funext i
    exact rem_ins _ _ _ _
  rw [this]
theorem mvO_self {o : Nat → Nat} (ho : PO o) {k : Nat} (hk : k < 10) : mvO o k (posO o k) = o := by
  obtain ⟨h1, h2⟩ := posO_spec ho hk
  funext i
  unfold mvO insO remO
  by_cases c : i < posO o k
  · rw [if_pos c, if_pos c]
  · rw [if_neg c]
    by_cases d : i = posO o k
    · rw [if_pos d, d, h2]
    · rw [if_neg d, if_neg (by omega), show i - 1 + 1 = i by omega]
/-- the first of the least among 0 .. n -/
def bst (s : Nat → Nat) : Nat → Nat
  | 0 => 0
  | n + 1 => if s (n + 1) < s (bst s n) then n + 1 else bst s n
theorem bst_le (s : Nat → Nat) (n : Nat) : bst s n ≤ n := by
  induction n with
  | zero => exact Nat.le_refl _
  | succ n ih => rw [bst]; split <;> omega
theorem bst_min (s : Nat → Nat) (n : Nat) : (∀ i : Nat, i ≤ n → s (bst s n) ≤ s i) ∧ ∀ i : Nat, i < bst s n → s (bst s n) < s i := by
  induction n with
  | zero => exact ⟨fun i hi => by rw [show i = 0 by omega]; exact Nat.le_refl _, fun i hi => by rw [bst] at hi; omega⟩
  | succ n ih =>
    have hle := bst_le s n
    rw [bst]
    by_cases c : s (n + 1) < s (bst s n)
    · rw [if_pos c]
      refine ⟨fun i hi => ?_, fun i hi => ?_⟩
      · by_cases e : i = n + 1
        · rw [e]; exact Nat.le_refl _
        · have := ih.1 i (by omega); omega
      · have := ih.1 i (by omega); omega
    · rw [if_neg c]
      refine ⟨fun i hi => ?_, ih.2⟩
      by_cases e : i = n + 1
      · rw [e]; omega
      · exact ih.1 i (by omega)
theorem bst_uniq {s : Nat → Nat} {n a : Nat} (ha : a ≤ n) (h1 : ∀ i : Nat, i ≤ n → s a ≤ s i) (h2 : ∀ i : Nat, i < a → s a < s i) : bst s n = a := by
  have hle := bst_le s n
  obtain ⟨b1, b2⟩ := bst_min s n
  rcases Nat.lt_trichotomy (bst s n) a with q | q | q
  · have := h2 _ q; have := b1 a ha; omega
  · exact q
  · have := b2 _ q; have := h1 _ hle; omega
/-- sifting -/
noncomputable def szs (F : Nat → Nat → Bool) (o : Nat → Nat) (k : Nat) : Nat → Nat := fun to => wh (PR 0 24) F (mvO o k to)
noncomputable def siftP (F : Nat → Nat → Bool) (o : Nat → Nat) (k : Nat) : Nat := bst (szs F o k) 9
noncomputable def siftO (F : Nat → Nat → Bool) (o : Nat → Nat) (k : Nat) : Nat → Nat := mvO o k (siftP F o k)
theorem siftP_lt (F : Nat → Nat → Bool) (o : Nat → Nat) (k : Nat) : siftP F o k < 10 := by
  have := bst_le (szs F o k) 9
  unfold siftP
  omega
theorem siftO_PO {F : Nat → Nat → Bool} {o : Nat → Nat} (ho : PO o) {k : Nat} (hk : k < 10) : PO (siftO F o k) := mvO_PO ho hk (siftP_lt F o k)
/-- the next turn: of those not done the one with the most, of several the least -/
def pkD (kp : Nat → Nat) (dn : Nat → Bool) : Nat → Option Nat
  | 0 => none
  | c + 1 => if !dn (9 - c) && (match pkD kp dn c with | none => true | some b => decide (kp b ≤ kp (9 - c))) then some (9 - c) else pkD kp dn c
theorem pkD_spec {kp : Nat → Nat} {dn : Nat → Bool} : ∀ c : Nat, c ≤ 10 → (pkD kp dn c = none ↔ ∀ k : Nat, 10 - c ≤ k → k < 10 → dn k = true) ∧ ∀ b : Nat, pkD kp dn c = some b → 10 - c ≤ b ∧ b < 10 ∧ dn b = false ∧ (∀ k : Nat, 10 - c ≤ k → k < 10 → dn k = false → kp k ≤ kp b) ∧ ∀ k : Nat, 10 - c ≤ k → k < b → dn k = false → kp k < kp b := by
  intro c
  induction c with
  | zero => intro _; exact ⟨⟨fun _ k h1 h2 => by omega, fun _ => rfl⟩, fun b hb => absurd hb (by rw [pkD]; intro z; cases z)⟩
  | succ c ih =>
    intro hc
    obtain ⟨h1, h2⟩ := ih (by omega)
    rw [pkD]
    have e9 : 10 - (c + 1) = 9 - c := by omega
    rw [e9]
    cases hp : pkD kp dn c with
    | none =>
      have hall := h1.mp hp
      cases hd : dn (9 - c)
      · simp only [Bool.not_false, Bool.true_and, if_true]
        refine ⟨⟨fun z => (by cases z), fun z => (by have := z (9 - c) (Nat.le_refl _) (by omega); rw [hd] at this; cases this)⟩, fun b hb => ?_⟩
        cases hb
        refine ⟨Nat.le_refl _, by omega, hd, fun k k1 k2 k3 => ?_, fun k k1 k2 _ => by omega⟩
        by_cases e : k = 9 - c
        · rw [e]; exact Nat.le_refl _
        · rw [hall k (by omega) k2] at k3; cases k3
      · simp only [Bool.not_true, Bool.false_and, Bool.false_eq_true, if_false]
        refine ⟨⟨fun _ k k1 k2 => ?_, fun _ => trivial⟩, fun b hb => (by cases hb)⟩
        by_cases e : k = 9 - c
        · rw [e]; exact hd
        · exact hall k (by omega) k2
    | some b =>
      obtain ⟨b1, b2, b3, b4, b5⟩ := h2 b hp
      have hnone : ∀ (x : Option Nat), x ≠ none → (x = none ↔ ∀ k : Nat, 9 - c ≤ k → k < 10 → dn k = true) := fun x hx => ⟨fun z => absurd z hx, fun z => by have := z b (by omega) b2; rw [b3] at this; cases this⟩
      cases hd : dn (9 - c)
      · by_cases hk : kp b ≤ kp (9 - c)
        · simp only [Bool.not_false, Bool.true_and, decide_eq_true hk, if_true]
          refine ⟨hnone _ (by intro z; cases z), fun b' hb => ?_⟩
          cases hb
          refine ⟨Nat.le_refl _, by omega, hd, fun k k1 k2 k3 => ?_, fun k k1 k2 _ => by omega⟩
          by_cases e : k = 9 - c
          · rw [e]; exact Nat.le_refl _
          · have := b4 k (by omega) k2 k3; omega
        · simp only [Bool.not_false, Bool.true_and, decide_eq_false hk, Bool.false_eq_true, if_false]
          refine ⟨hnone _ (by intro z; cases z), fun b' hb => ?_⟩
          cases hb
          refine ⟨by omega, b2, b3, fun k k1 k2 k3 => ?_, fun k k1 k2 k3 => ?_⟩
          · by_cases e : k = 9 - c
            · rw [e]; omega
            · exact b4 k (by omega) k2 k3
          · by_cases e : k = 9 - c
            · rw [e]; omega
            · exact b5 k (by omega) k2 k3
      · simp only [Bool.not_true, Bool.false_and, Bool.false_eq_true, if_false]
        refine ⟨hnone _ (by intro z; cases z), fun b' hb => ?_⟩
        cases hb
        refine ⟨by omega, b2, b3, fun k k1 k2 k3 => ?_, fun k k1 k2 k3 => ?_⟩
        · by_cases e : k = 9 - c
          · rw [e, hd] at k3; cases k3
          · exact b4 k (by omega) k2 k3
        · by_cases e : k = 9 - c
          · rw [e, hd] at k3; cases k3
          · exact b5 k (by omega) k2 k3
def pickO (kp : Nat → Nat) (dn : Nat → Bool) : Nat := (pkD kp dn 10).getD 0
/-- n turns -/
noncomputable def saN (F : Nat → Nat → Bool) (kp : Nat → Nat) (o : Nat → Nat) : Nat → (Nat → Bool) × (Nat → Nat)
  | 0 => (fun _ => false, o)
  | n + 1 => (fun k => if k = pickO kp (saN F kp o n).1 then true else (saN F kp o n).1 k, siftO F (saN F kp o n).2 (pickO kp (saN F kp o n).1))
/-- as many are done as turns are taken -/
theorem saN_done (F : Nat → Nat → Bool) (kp : Nat → Nat) (o : Nat → Nat) : ∀ n : Nat, n ≤ 10 → ∃ f : Nat → Nat, (∀ i : Nat, i < n → f i < 10) ∧ (∀ i j : Nat, i < n → j < n → f i = f j → i = j) ∧ ∀ k : Nat, (saN F kp o n).1 k = true ↔ ∃ i : Nat, i < n ∧ f i = k := by
  intro n
  induction n with
  | zero => exact fun _ => ⟨fun _ => 0, fun i hi => by omega, fun i j hi => by omega, fun k => ⟨fun z => (by cases z), fun ⟨i, hi, _⟩ => by omega⟩⟩
  | succ n ih =>
    intro hn
    obtain ⟨f, f1, f2, f3⟩ := ih (by omega)
    have hsome : pkD kp (saN F kp o n).1 10 ≠ none := fun z => by
      have hall := ((pkD_spec 10 (Nat.le_refl _)).1.mp z)
      have c : ∀ k : Nat, ∃ i : Nat, k < 10 → i < n ∧ f i = k := fun k => by
        by_cases hk : k < 10
        · obtain ⟨i, hi⟩ := (f3 k).mp (hall k (by omega) hk)
          exact ⟨i, fun _ => hi⟩
        · exact ⟨0, fun q => absurd q hk⟩
      refine no_inj n 10 (fun k => Classical.choose (c k)) (by omega) (fun k hk => (Classical.choose_spec (c k) hk).1) (fun k l hk hl e => ?_)
      have e1 := (Classical.choose_spec (c k) hk).2
      have e2 := (Classical.choose_spec (c l) hl).2
      have e : Classical.choose (c k) = Classical.choose (c l) := e
      rw [← e1, ← e2, e]
    obtain ⟨b, hb⟩ : ∃ b, pkD kp (saN F kp o n).1 10 = some b := by
      cases h : pkD kp (saN F kp o n).1 10 with
      | none => exact absurd h hsome
      | some b => exact ⟨b, rfl⟩
    obtain ⟨b1, b2, b3, -⟩ := (pkD_spec 10 (Nat.le_refl _)).2 b hb
    have ep : pickO kp (saN F kp o n).1 = b := by unfold pickO; rw [hb]; rfl
    refine ⟨fun i => if i < n then f i else b, fun i hi => ?_, fun i j hi hj e => ?_, fun k => ?_⟩
    · show (if i < n then f i else b) < 10
      split
      · exact f1 i (by assumption)
      · exact b2
    · have e : (if i < n then f i else b) = (if j < n then f j else b) := e
      have nb : ∀ i : Nat, i < n → f i ≠ b := fun i hi z => by rw [(f3 b).mpr ⟨i, hi, z⟩] at b3; cases b3
      by_cases c : i < n <;> by_cases d : j < n
      · rw [if_pos c, if_pos d] at e; exact f2 i j c d e
      · rw [if_pos c, if_neg d] at e; exact absurd e (nb i c)
      · rw [if_neg c, if_pos d] at e; exact absurd e.symm (nb j d)
      · omega
    · rw [saN, ep]
      show (if k = b then true else (saN F kp o n).1 k) = true ↔ _
      by_cases c : k = b
      · rw [if_pos c]
        exact ⟨fun _ => ⟨n, by omega, by dsimp only; rw [if_neg (by omega)]; exact c.symm⟩, fun _ => rfl⟩
      · rw [if_neg c, f3]
        constructor
        · rintro ⟨i, hi, e⟩
          exact ⟨i, by omega, by dsimp only; rw [if_pos hi]; exact e⟩
        · rintro ⟨i, hi, e⟩
          dsimp only at e
          by_cases d : i < n
          · rw [if_pos d] at e; exact ⟨i, d, e⟩
          · rw [if_neg d] at e; exact absurd e.symm c
theorem saN_pick (F : Nat → Nat → Bool) (kp : Nat → Nat) (o : Nat → Nat) {n : Nat} (hn : n < 10) : ∃ b : Nat, pkD kp (saN F kp o n).1 10 = some b ∧ pickO kp (saN F kp o n).1 = b ∧ b < 10 ∧ (saN F kp o n).1 b = false := by
  obtain ⟨f, f1, f2, f3⟩ := saN_done F kp o n (by omega)
  have hsome : pkD kp (saN F kp o n).1 10 ≠ none := fun z => by
    have hall := ((pkD_spec 10 (Nat.le_refl _)).1.mp z)
    have c : ∀ k : Nat, ∃ i : Nat, k < 10 → i < n ∧ f i = k := fun k => by
      by_cases hk : k < 10
      · obtain ⟨i, hi⟩ := (f3 k).mp (hall k (by omega) hk)
        exact ⟨i, fun _ => hi⟩
      · exact ⟨0, fun q => absurd q hk⟩
    refine no_inj n 10 (fun k => Classical.choose (c k)) (by omega) (fun k hk => (Classical.choose_spec (c k) hk).1) (fun k l hk hl e => ?_)
    have e1 := (Classical.choose_spec (c k) hk).2
    have e2 := (Classical.choose_spec (c l) hl).2
    have e : Classical.choose (c k) = Classical.choose (c l) := e
    rw [← e1, ← e2, e]
  cases h : pkD kp (saN F kp o n).1 10 with
  | none => exact absurd h hsome
  | some b =>
    obtain ⟨b1, b2, b3, -⟩ := (pkD_spec 10 (Nat.le_refl _)).2 b h
    exact ⟨b, rfl, by unfold pickO; rw [h]; rfl, b2, b3⟩
theorem saN_PO {F : Nat → Nat → Bool} {kp : Nat → Nat} {o : Nat → Nat} (ho : PO o) : ∀ n : Nat, n ≤ 10 → PO (saN F kp o n).2 := by
  intro n
  induction n with
  | zero => exact fun _ => ho
  | succ n ih =>
    intro hn
    obtain ⟨b, -, e, hb, -⟩ := saN_pick F kp o (n := n) (by omega)
    rw [saN, e]
    exact siftO_PO (ih (by omega)) hb
noncomputable def kpO (F : Nat → Nat → Bool) (o : Nat → Nat) : Nat → Nat := fun k => qn (PR 0 24) F o (posO o k)
noncomputable def saO (F : Nat → Nat → Bool) (o : Nat → Nat) : Nat → Nat := (saN F (kpO F o) o 10).2
