/-! the trial's rows fit the nodes' -/
def TSH (ln : Nat → Nat) (t : Nat) : Prop := 6 ≤ t ∧ ln 24 = 2 ^ t ∧ ln 25 = 2 ^ t ∧ ln 26 = 2 ^ t ∧ ln 27 = 2 ^ t ∧ ln 28 = 11 ∧ ln 29 = 11
def isT (i : Nat) : Prop := i = 24 ∨ i = 25 ∨ i = 26 ∨ i = 27
theorem t24 : isT 24 := Or.inl rfl
theorem t25 : isT 25 := Or.inr (Or.inl rfl)
theorem t26 : isT 26 := Or.inr (Or.inr (Or.inl rfl))
theorem t27 : isT 27 := Or.inr (Or.inr (Or.inr rfl))
section FIT
variable {ad S : Nat → Nat} {I : Nat → Nat → Nat} {ln : Nat → Nat} {L : Nat → Nat → Int64} {E : (Nat → Prop) × (Nat → Option PE)} {z R : Nat × Nat} {u : PS} {e t : Nat}
theorem TSH.len (h : TSH ln t) {i : Nat} (hi : isT i) : ln i = 2 ^ t := by
  obtain ⟨_, a, b, c, d, _⟩ := h
  rcases hi with rfl | rfl | rfl | rfl <;> assumption
theorem VC.tia (h : VC 69 ad S I ln L E z u) (ts : TSH ln t) (ht : 2 ^ t ≤ 16384) (i : Nat) (hi : isT i) {j : Nat} (hj : j < 2 ^ t) : x_ia u (ad i) (nI j) (nI (I i j)) := by
  have l1 := ts.len hi
  refine h.ia i ?_ (ii ?_) (by omega) (by omega)
  · rcases hi with rfl | rfl | rfl | rfl <;> decide
  · rcases hi with rfl | rfl | rfl | rfl <;> decide
theorem VC.tis (h : VC 69 ad S I ln L E z u) (ts : TSH ln t) (ht : 2 ^ t ≤ 16384) (i : Nat) (hi : isT i) {j : Nat} (hj : j < 2 ^ t) (v : Nat) : ∃ u' : PS, x_is u (ad i) (nI j) (nI v) u' ∧ VC 69 ad S (va_up I i (va_up (I i) j v)) ln L E z u' := by
  have l1 := ts.len hi
  refine h.isx i ?_ (ii ?_) (by omega) (by omega) v
  · rcases hi with rfl | rfl | rfl | rfl <;> decide
  · rcases hi with rfl | rfl | rfl | rfl <;> decide
theorem q_growT (h : VC 69 ad S I ln L E z u) {i k m : Nat} (hik : (i = 24 ∧ k = 3) ∨ (i = 25 ∧ k = 4) ∨ (i = 26 ∧ k = 6) ∨ (i = 27 ∧ k = 7)) (hm : ln i ≤ m) (hm2 : m ≤ 65536) {Q : PS → Prop} (hQ : ∀ u' : PS, VC 69 (va_up ad i z.1) S (va_up I i (ext (I i) (ln i))) (va_up ln i m) L E (z.1 + 1, z.2 + m) u' → Q u') : p_N_lengthened (ad i) (nI m) u (fun r u1 => ∃ u2 : PS, x_pv u1 (ad 5) 4 k (.ref r) u2 ∧ Q u2) := by
  rcases hik with ⟨rfl, rfl⟩ | ⟨rfl, rfl⟩ | ⟨rfl, rfl⟩ | ⟨rfl, rfl⟩ <;>
    exact q_grow h (by decide) (by decide) (by decide) (fun _ => rfl) (fun _ => by show _ < 10; decide) (fun _ _ => rfl) (fun _ _ => six (fun _ => rfl) (fun _ => rfl) (fun _ => rfl) (fun _ => rfl) (fun _ => rfl) (fun w => absurd rfl w)) hm hm2 hQ
theorem q_T_fit (h : VC 69 ad S I ln L E z u) (sh : SH R S ln z e) (ts : TSH ln t) (hte : t ≤ e)
    {Q : PS → Prop} (hQ : ∀ (u' : PS) (ad' : Nat → Nat) (I' : Nat → Nat → Nat) (ln' : Nat → Nat) (z' : Nat × Nat), VC 69 ad' S I' ln' L E z' u' → SH R S ln' z' e → TSH ln' e → (∀ i : Nat, ¬ isT i → ad' i = ad i ∧ I' i = I i ∧ ln' i = ln i) → (∀ i n : Nat, isT i → (n < 2 ^ t → I' i n = I i n) ∧ (I' i n = I i n ∨ I' i n = 0)) → Q u') : p_T_fitNodes (ad 5) u Q := by
  have hle := sh.le
  have an := h.an 7 (by decide) (ii (by decide))
  rw [sh.len n7] at an
  have an2 := h.an 24 (by decide) (ii (by decide))
  rw [ts.len t24] at an2
  have hpt : 2 ^ t ≤ 2 ^ e := Nat.pow_le_pow_right (by decide) hte
  unfold p_T_fitNodes
  refine ⟨_, h.fT (by decide) rfl, _, h.fN (by decide) rfl, _, an, _, h.fT (by decide) rfl, _, an2, pk_le (2 ^ e) (2 ^ t) (fun a => ?_) (fun a => ?_)⟩
  · have : t = e := by
      refine Classical.byContradiction (fun c => ?_)
      have := Nat.pow_lt_pow_right (a := 2) (by decide) (show t < e by omega)
      omega
    subst this
    exact hQ u ad I ln z h sh ts (fun _ _ => ⟨rfl, rfl, rfl⟩) (fun _ _ _ => ⟨fun _ => rfl, Or.inl rfl⟩)
  · have hlt : t < e := by
      refine Classical.byContradiction (fun c => ?_)
      have : t = e := by omega
      subst this
      omega
    have hp2 : 2 * 2 ^ t ≤ 2 ^ e := by
      have := Nat.pow_le_pow_right (n := 2) (by decide) (show t + 1 ≤ e by omega)
      rw [Nat.pow_succ] at this
      omega
    have ts0 := ts
    obtain ⟨c0, c1, c2, c3, c4, c5, c6⟩ := ts
    refine ⟨_, h.fT (by decide) rfl, q_growT h (i := 24) (k := 3) (by decide) (by omega) (by omega) (fun u1 h1 => ?_)⟩
    refine ⟨_, h1.fT (by decide) rfl, q_growT h1 (i := 25) (k := 4) (by decide) (show ln 25 ≤ _ by omega) (by omega) (fun u2 h2 => ?_)⟩
    refine ⟨_, h2.fT (by decide) rfl, q_growT h2 (i := 26) (k := 6) (by decide) (show ln 26 ≤ _ by omega) (by omega) (fun u3 h3 => ?_)⟩
    refine ⟨_, h3.fT (by decide) rfl, q_growT h3 (i := 27) (k := 7) (by decide) (show ln 27 ≤ _ by omega) (by omega) (fun u4 h4 => ?_)⟩
    generalize hA : va_up (va_up (va_up (va_up ad 24 _) 25 _) 26 _) 27 _ = A at h4
    generalize hJ : va_up (va_up (va_up (va_up I 24 _) 25 _) 26 _) 27 _ = J at h4
    generalize hM : va_up (va_up (va_up (va_up ln 24 _) 25 _) 26 _) 27 _ = M at h4
    have J24 : J 24 = ext (I 24) (2 ^ t) := by rw [← hJ, ← c1]; rfl
    have J25 : J 25 = ext (I 25) (2 ^ t) := by rw [← hJ, ← c2]; rfl
    have J26 : J 26 = ext (I 26) (2 ^ t) := by rw [← hJ, ← c3]; rfl
    have J27 : J 27 = ext (I 27) (2 ^ t) := by rw [← hJ, ← c4]; rfl
    have oth : ∀ i : Nat, ¬ isT i → A i = ad i ∧ J i = I i ∧ M i = ln i := fun i hi => by
      have q24 : i ≠ 24 := fun c => hi (Or.inl c)
      have q25 : i ≠ 25 := fun c => hi (Or.inr (Or.inl c))
      have q26 : i ≠ 26 := fun c => hi (Or.inr (Or.inr (Or.inl c)))
      have q27 : i ≠ 27 := fun c => hi (Or.inr (Or.inr (Or.inr c)))
      rw [← hA, ← hJ, ← hM]
      refine ⟨?_, ?_, ?_⟩
      · rw [up_ne _ _ q27, up_ne _ _ q26, up_ne _ _ q25, up_ne _ _ q24]
      · rw [up_ne _ _ q27, up_ne _ _ q26, up_ne _ _ q25, up_ne _ _ q24]
      · rw [up_ne _ _ q27, up_ne _ _ q26, up_ne _ _ q25, up_ne _ _ q24]
    have M24 : M 24 = 2 ^ e := by rw [← hM]; rfl
    have M25 : M 25 = 2 ^ e := by rw [← hM]; rfl
    have M26 : M 26 = 2 ^ e := by rw [← hM]; rfl
    have M27 : M 27 = 2 ^ e := by rw [← hM]; rfl
    have nT : ∀ i : Nat, i < 24 ∨ 28 ≤ i → ¬ isT i := fun i hi c => by rcases c with c | c | c | c <;> omega
    have Mo : ∀ i : Nat, i < 24 ∨ 28 ≤ i → M i = ln i := fun i hi => (oth i (nT i hi)).2.2
    have gM : gs M + 4 * 2 ^ t = gs ln + 4 * 2 ^ e := by
      unfold gs
      rw [M24, M25, M26, M27, Mo 7 (by omega), Mo 8 (by omega), Mo 10 (by omega), Mo 11 (by omega), Mo 12 (by omega), Mo 13 (by omega), Mo 14 (by omega), Mo 15 (by omega), Mo 16 (by omega), Mo 17 (by omega), Mo 18 (by omega), Mo 19 (by omega), Mo 20 (by omega), Mo 21 (by omega), Mo 22 (by omega), Mo 23 (by omega)]
      omega
    obtain ⟨t1, t2, ⟨b1, b2, b3, b4, b5, b6, b7⟩, t4, t5, t6, t7⟩ := sh
    refine hQ u4 A J M _ h4 ⟨t1, t2, ⟨by rw [Mo 7 (by omega)]; exact b1, by rw [Mo 8 (by omega)]; exact b2, by rw [Mo 9 (by omega)]; exact b3, by rw [Mo 10 (by omega)]; exact b4, by rw [Mo 11 (by omega)]; exact b5, by rw [Mo 12 (by omega)]; exact b6, by rw [Mo 13 (by omega)]; exact b7⟩, t4, fun k hk => by rw [Mo _ (by omega)]; exact t5 k hk, ?_, ?_⟩ ⟨by omega, M24, M25, M26, M27, by rw [Mo 28 (by omega)]; exact c5, by rw [Mo 29 (by omega)]; exact c6⟩ oth (fun i n hi => ?_)
    · show z.1 + 1 + 1 + 1 + 1 ≤ _; omega
    · show z.2 + 2 ^ e + 2 ^ e + 2 ^ e + 2 ^ e ≤ _; omega
    · have ex : J i = ext (I i) (2 ^ t) := by
        rcases hi with rfl | rfl | rfl | rfl
        · exact J24
        · exact J25
        · exact J26
        · exact J27
      rw [ex]
      refine ⟨fun q => ext_lt q, ?_⟩
      by_cases c : n < 2 ^ t
      · exact Or.inl (ext_lt c)
      · exact Or.inr (ext_ge (by omega))
end FIT
