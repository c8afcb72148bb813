/-! Functions: findMates() -/
section MTE
variable {L : Nat → Nat → Int64} {E : (Nat → Prop) × (Nat → Option PE)} {ad S : Nat → Nat} {I : Nat → Nat → Nat} {ln : Nat → Nat} {z : Nat × Nat}
def orU (f : Nat → Nat) (x us : Nat) : Nat → Nat := fun k => if x.testBit k then f k ||| us else f k
theorem setb_lt10 {x t : Nat} (hx : x < 1024) (ht : t < 10) : setb x t false < 1024 := setb_10 false hx ht
theorem q_F_fm_L40 (l39 : ln 39 = 10) {us : Nat} {x2 : Int32} {X : PS → Prop} : ∀ (n x : Nat) (f : Nat → Nat) (u : PS), x < n → x < 1024 → VC 69 ad S (va_up I 39 f) ln L E z u → (∀ u' : PS, VC 69 ad S (va_up I 39 (orU f x us)) ln L E z u' → X u') → p_F_findMates_L40 (ad 1) (ad 39) x2 (nI us) X n (nI x) u := by
  intro n
  induction n with
  | zero => intro x f u h; exact absurd h (by omega)
  | succ n ih =>
    intro x f u hn hx h hX
    rw [p_F_findMates_L40]
    refine ⟨fun w => ?_, fun w => ?_⟩
    · have x0 : x = 0 := (nI_0I (by omega)).mp w
      subst x0
      have e : orU f 0 us = f := by
        funext k
        unfold orU
        rw [Nat.zero_testBit]
        rfl
      exact hX u (by rw [e]; exact h)
    · have x0 : x ≠ 0 := fun q => w (by rw [q]; rfl)
      obtain ⟨t, ht⟩ := LB.ex x (by omega)
      have t10 : t < 10 := ht.lt (n := 10) hx
      refine q_ntz ht (by omega) ?_
      have r39 := h.ia 39 (by decide) (ii (by decide)) (j := t) (by omega) (by omega)
      rw [up_eq] at r39
      refine ⟨_, r39, ?_⟩
      rw [nx_or]
      obtain ⟨u1, s1, h1⟩ := h.isx 39 (by decide) (ii (by decide)) (j := t) (by omega) (by omega) (f t ||| us)
      rw [up_eq, bx_uu] at h1
      refine ⟨u1, s1, nm_e ?_⟩
      rw [nI_drop ht]
      have hl := setb_drop_lt ht
      refine ih (setb x t false) (va_up f t (f t ||| us)) u1 (by omega) (setb_lt10 hx t10) h1 (fun u2 h2 => hX u2 ?_)
      have e : orU (va_up f t (f t ||| us)) (setb x t false) us = orU f x us := by
        funext k
        unfold orU
        rw [tb_setb]
        by_cases c : k = t
        · subst c
          rw [if_pos rfl, up_eq, ht.at, if_neg (by decide), if_pos rfl]
        · rw [if_neg c, up_ne _ _ c]
      rw [← e]
      exact h2
theorem q_F_fm_L23 (l39 : ln 39 = 10) (l6 : ln 6 = 24) (hmu : ∀ p : Nat, p < 24 → I 6 p < 1024) {X : PS → Prop} : ∀ (n x : Nat) (f : Nat → Nat) (u : PS), x < n → x < 2 ^ 24 → (∀ k : Nat, k < 10 → f k < 1024) → VC 69 ad S (va_up I 39 f) ln L E z u → (∀ (u' : PS) (f' : Nat → Nat), VC 69 ad S (va_up I 39 f') ln L E z u' → (∀ k : Nat, k < 10 → f' k < 1024) → (∀ k y : Nat, k < 10 → ((f' k).testBit y = true ↔ (f k).testBit y = true ∨ ∃ p : Nat, p < 24 ∧ x.testBit p = true ∧ (I 6 p).testBit k = true ∧ (I 6 p).testBit y = true)) → X u') → p_F_findMates_L23 (ad 1) (ad 39) X n (nI x) u := by
  intro n
  induction n with
  | zero => intro x f u h; exact absurd h (by omega)
  | succ n ih =>
    intro x f u hn hx hf h hX
    rw [p_F_findMates_L23]
    refine ⟨fun w => ?_, fun w => ?_⟩
    · have x0 : x = 0 := (nI_0I (by omega)).mp w
      subst x0
      refine hX u f h hf (fun k y _ => ⟨Or.inl, fun q => q.elim (fun q => q) (fun ⟨p, _, q, _⟩ => ?_)⟩)
      rw [Nat.zero_testBit] at q
      exact absurd q (by decide)
    · have x0 : x ≠ 0 := fun q => w (by rw [q]; rfl)
      obtain ⟨t, ht⟩ := LB.ex x (by omega)
      have t24 : t < 24 := ht.lt (n := 24) hx
      have mt := hmu t t24
      refine ⟨_, h.fF (by decide) rfl, q_ntz ht (by omega) ?_⟩
      have r6 := h.ia 6 (by decide) (ii (by decide)) (j := t) (by omega) (by omega)
      rw [up_ne I _ (show (6 : Nat) ≠ 39 by decide)] at r6
      refine ⟨_, r6, I 6 t + 1, q_F_fm_L40 l39 (I 6 t + 1) (I 6 t) f u (by omega) mt h (fun u1 h1 => ?_)⟩
      unfold p_F_findMates_J68
      refine nm_e ?_
      rw [nI_drop ht]
      have hl := setb_drop_lt ht
      refine ih (setb x t false) (orU f (I 6 t) (I 6 t)) u1 (by omega) (by omega) (fun k hk => ?_) h1 (fun u2 f2 h2 q1 q2 => hX u2 f2 h2 q1 (fun k y hk => ?_))
      · unfold orU
        split
        · exact Nat.or_lt_two_pow (n := 10) (hf k hk) mt
        · exact hf k hk
      · rw [q2 k y hk]
        have e1 : (orU f (I 6 t) (I 6 t) k).testBit y = true ↔ (f k).testBit y = true ∨ ((I 6 t).testBit k = true ∧ (I 6 t).testBit y = true) := by
          unfold orU
          cases hb : (I 6 t).testBit k
          · rw [if_neg (by decide)]
            exact ⟨Or.inl, fun q => q.elim (fun q => q) (fun q => absurd q.1 (by decide))⟩
          · rw [if_pos rfl, Nat.testBit_or, Bool.or_eq_true]
            exact ⟨fun q => q.elim Or.inl (fun q => Or.inr ⟨rfl, q⟩), fun q => q.elim Or.inl (fun q => Or.inr q.2)⟩
        rw [e1]
        constructor
        · rintro ((q | q) | ⟨p, p1, p2, p3⟩)
          · exact Or.inl q
          · exact Or.inr ⟨t, t24, ht.at, q⟩
          · refine Or.inr ⟨p, p1, ?_, p3⟩
            rw [tb_setb] at p2
            by_cases c : p = t
            · rw [if_pos c] at p2; exact absurd p2 (by decide)
            · rw [if_neg c] at p2; exact p2
        · rintro (q | ⟨p, p1, p2, p3⟩)
          · exact Or.inl (Or.inl q)
          · by_cases c : p = t
            · subst c; exact Or.inl (Or.inr p3)
            · refine Or.inr ⟨p, p1, ?_, p3⟩
              rw [tb_setb, if_neg c]; exact p2
theorem q_F_findMates {u : PS} (h : VC 69 ad S I ln L E z u) (l39 : ln 39 = 10) (l6 : ln 6 = 24) (hmu : ∀ p : Nat, p < 24 → I 6 p < 1024) (h1 : S 1 < 2 ^ 24) {Q : PS → Prop} (hQ : ∀ (u' : PS) (f : Nat → Nat), VC 69 ad S (va_up I 39 f) ln L E z u' → (∀ k : Nat, k < 10 → f k < 1024) → (∀ k y : Nat, k < 10 → ((f k).testBit y = true ↔ ∃ p : Nat, p < 24 ∧ (S 1).testBit p = true ∧ (I 6 p).testBit k = true ∧ (I 6 p).testBit y = true)) → Q u') : p_F_findMates (ad 1) (ad 39) u Q := by
  have L2 : ∀ (d k : Nat) (f : Nat → Nat) (u : PS), k + d = 10 → VC 69 ad S (va_up I 39 f) ln L E z u → (∀ j : Nat, j < k → f j = 0) → p_F_findMates_L2 (ad 1) (ad 39) (fun u_4 => p_F_findMates_J18 Q (ad 1) (ad 39) u_4) (d + 1) (nI k) u := by
    intro d
    induction d with
    | zero =>
      intro k f u hk h hf
      obtain rfl : k = 10 := by omega
      rw [p_F_findMates_L2]
      refine pk_le 10 10 (fun _ => ?_) (fun w => absurd w (by omega))
      unfold p_F_findMates_J18
      refine ⟨_, h.fF (by decide) rfl, S 1 + 1, q_F_fm_L23 l39 l6 hmu (S 1 + 1) (S 1) f u (by omega) h1 (fun j hj => by rw [hf j hj]; decide) h (fun u1 f1 v1 v2 v3 => hQ u1 f1 v1 v2 (fun k y hk => ?_))⟩
      rw [v3 k y hk, hf k hk, Nat.zero_testBit]
      exact ⟨fun q => q.elim (fun q => absurd q (by decide)) (fun q => q), Or.inr⟩
    | succ d ih =>
      intro k f u hk h hf
      rw [p_F_findMates_L2]
      refine pk_le 10 k (fun w => absurd w (by omega)) (fun _ => ?_)
      obtain ⟨u1, s1, v1⟩ := h.isx 39 (by decide) (ii (by decide)) (j := k) (by omega) (by omega) 0
      rw [up_eq, bx_uu] at v1
      refine ⟨u1, s1, nm_e ?_⟩
      rw [nI_1]
      refine ih (k + 1) _ u1 (by omega) v1 (fun j hj => ?_)
      by_cases c : j = k
      · subst c; exact up_eq _ _ _
      · rw [up_ne _ _ c]; exact hf j (by omega)
  unfold p_F_findMates
  exact ⟨11, L2 10 0 (I 39) u (by omega) (by rw [up_id]; exact h) (fun j hj => absurd hj (by omega))⟩
end MTE
