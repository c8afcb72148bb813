/-! Diagrams: takeTurns() -/
/-- the inputs below k that are asked: those with most questions first, of several the least -/
def SRT (kp : Nat → Nat) (k : Nat) (T : Nat → Nat) (m : Nat) : Prop := (∀ i : Nat, i < m → T i < k ∧ 0 < kp (T i)) ∧ (∀ i j : Nat, i < j → j < m → kp (T j) < kp (T i) ∨ (kp (T j) = kp (T i) ∧ T i < T j)) ∧ ∀ a : Nat, a < k → 0 < kp a → ∃ i : Nat, i < m ∧ T i = a
theorem SRT.inj {kp : Nat → Nat} {k : Nat} {T : Nat → Nat} {m : Nat} (h : SRT kp k T m) {i j : Nat} (hi : i < m) (hj : j < m) (e : T i = T j) : i = j := by
  rcases Nat.lt_trichotomy i j with q | q | q
  · rcases h.2.1 i j q hj with w | w
    · rw [e] at w; omega
    · rw [e] at w; omega
  · exact q
  · rcases h.2.1 j i q hi with w | w
    · rw [e] at w; omega
    · rw [e] at w; omega
theorem SRT.len {kp : Nat → Nat} {k : Nat} {T : Nat → Nat} {m : Nat} (h : SRT kp k T m) : m ≤ k := by
  refine Classical.byContradiction (fun w => ?_)
  exact no_inj k m T (by omega) (fun i hi => (h.1 i hi).1) (fun i j hi hj e => h.inj hi hj e)
theorem SRT.skip {kp : Nat → Nat} {k : Nat} {T : Nat → Nat} {m : Nat} (h : SRT kp k T m) (h0 : kp k = 0) : SRT kp (k + 1) T m := by
  refine ⟨fun i hi => ⟨by have := (h.1 i hi).1; omega, (h.1 i hi).2⟩, h.2.1, fun a ha hp => ?_⟩
  by_cases c : a = k
  · subst c; omega
  · exact h.2.2 a (by omega) hp
theorem SRT.ins {kp : Nat → Nat} {k : Nat} {T : Nat → Nat} {m i : Nat} (h : SRT kp k T m) (h0 : 0 < kp k) (hi : i ≤ m) (hlo : ∀ j : Nat, j < i → kp k ≤ kp (T j)) (hhi : ∀ j : Nat, i ≤ j → j < m → kp (T j) < kp k) : SRT kp (k + 1) (insO T i k) (m + 1) := by
  have ev : ∀ j : Nat, insO T i k j = if j < i then T j else if j = i then k else T (j - 1) := fun _ => rfl
  refine ⟨fun j hj => ?_, fun a b hab hb => ?_, fun a ha hp => ?_⟩
  · rw [ev]
    by_cases c : j < i
    · rw [if_pos c]; have := h.1 j (by omega); exact ⟨by omega, this.2⟩
    · rw [if_neg c]
      by_cases d : j = i
      · rw [if_pos d]; exact ⟨by omega, h0⟩
      · rw [if_neg d]; have := h.1 (j - 1) (by omega); exact ⟨by omega, this.2⟩
  · rw [ev, ev]
    by_cases c : b < i
    · rw [if_pos c, if_pos (by omega)]; exact h.2.1 a b hab (by omega)
    · rw [if_neg c]
      by_cases d : b = i
      · rw [if_pos d, if_pos (by omega)]
        have h1 := hlo a (by omega)
        have h2 := (h.1 a (by omega)).1
        by_cases q : kp k = kp (T a)
        · exact Or.inr ⟨q, h2⟩
        · exact Or.inl (by omega)
      · rw [if_neg d]
        by_cases c2 : a < i
        · rw [if_pos c2]; exact h.2.1 a (b - 1) (by omega) (by omega)
        · rw [if_neg c2]
          by_cases d2 : a = i
          · rw [if_pos d2]; exact Or.inl (hhi (b - 1) (by omega) (by omega))
          · rw [if_neg d2]; exact h.2.1 (a - 1) (b - 1) (by omega) (by omega)
  · by_cases c : a = k
    · subst c; exact ⟨i, by omega, by rw [ev, if_neg (by omega), if_pos rfl]⟩
    · obtain ⟨j, hj, e⟩ := h.2.2 a (by omega) hp
      by_cases d : j < i
      · exact ⟨j, by omega, by rw [ev, if_pos d]; exact e⟩
      · exact ⟨j + 1, by omega, by rw [ev, if_neg (by omega), if_neg (by omega), show j + 1 - 1 = j by omega]; exact e⟩
section TRS
variable {L : Nat → Nat → Int64} {E : (Nat → Prop) × (Nat → Option PE)} {ad S : Nat → Nat} {I : Nat → Nat → Nat} {ln : Nat → Nat} {z : Nat × Nat}
theorem q_D_tt_L26 (l9 : ln 9 = 10) (l40 : ln 40 = 10) (hb : ∀ a : Nat, a < 10 → I 9 a < 2 ^ 31) {k m : Nat} {T : Nat → Nat} (hk : k < 10) (hm : m < 10) (hT : SRT (I 9) k T m) {x1 x2 : Int32} {X : Int32 → PS → Prop} (hX : ∀ (u' : PS) (i : Nat) (f : Nat → Nat), VC 69 ad S (va_up I 40 f) ln L E z u' → i ≤ m → (∀ j : Nat, j < i → f j = T j) → (∀ j : Nat, i < j → j ≤ m → f j = T (j - 1)) → (∀ j : Nat, j < i → I 9 k ≤ I 9 (T j)) → (∀ j : Nat, i ≤ j → j < m → I 9 (T j) < I 9 k) → X (nI i) u') : ∀ (i : Nat) (u : PS) (f : Nat → Nat), VC 69 ad S (va_up I 40 f) ln L E z u → i ≤ m → (∀ j : Nat, j < i → f j = T j) → (∀ j : Nat, i < j → j ≤ m → f j = T (j - 1)) → (∀ j : Nat, i ≤ j → j < m → I 9 (T j) < I 9 k) → p_D_takeTurns_L26 (ad 2) x1 x2 (nI (I 9 k)) X (i + 1) (nI i) u := by
  intro i
  induction i with
  | zero =>
    intro u f h hi h1 h2 h3
    rw [p_D_takeTurns_L26]
    refine pk_le 0 0 (fun _ => hX u 0 f h hi h1 h2 (fun j hj => absurd hj (by omega)) h3) (fun w => absurd w (by omega))
  | succ i ih =>
    intro u f h hi h1 h2 h3
    rw [p_D_takeTurns_L26]
    refine pk_le (i + 1) 0 (fun w => absurd w (by omega)) (fun _ => ?_)
    have ti := (hT.1 i (by omega)).1
    have e1 : nI (i + 1) - (1 : Int32) = nI i := pk_sub (a := i + 1) (b := 1) (by omega)
    rw [e1]
    have r40 := h.ia 40 (by decide) (ii (by decide)) (j := i) (by omega) (by omega)
    rw [up_eq, h1 i (by omega)] at r40
    have b1 := hb k hk
    have b2 := hb (T i) (by omega)
    refine ⟨_, h.fD (by decide) rfl, _, h.fD (by decide) rfl, _, r40, h.obN (by decide), q_N_asksFor h l9 (show T i < 10 by omega) ?_⟩
    rw [up_ne I _ (show (9 : Nat) ≠ 40 by decide)]
    refine pk_le (I 9 k) (I 9 (T i)) (fun w => ?_) (fun w => ?_)
    · refine hX u (i + 1) f h hi h1 h2 (fun j hj => ?_) h3
      by_cases c : j = i
      · rw [c]; exact w
      · rcases hT.2.1 j i (by omega) (by omega) with q | q
        · omega
        · omega
    · obtain ⟨u1, s1, v1⟩ := h.isx 40 (by decide) (ii (by decide)) (j := i + 1) (by omega) (by omega) (T i)
      rw [up_eq, bx_uu] at v1
      refine ⟨_, h.fD (by decide) rfl, _, h.fD (by decide) rfl, _, r40, u1, s1, nm_e ?_⟩
      rw [nI_dec]
      refine ih u1 _ v1 (by omega) (fun j hj => ?_) (fun j j1 j2 => ?_) (fun j j1 j2 => ?_)
      · rw [up_ne _ _ (by omega)]; exact h1 j (by omega)
      · by_cases c : j = i + 1
        · subst c; rw [up_eq, show i + 1 - 1 = i by omega]
        · rw [up_ne _ _ c]; exact h2 j (by omega) j2
      · by_cases c : j = i
        · rw [c]; exact w
        · exact h3 j (by omega) j2
theorem q_D_takeTurns {u : PS} (h : VC 69 ad S I ln L E z u) (l9 : ln 9 = 10) (l40 : ln 40 = 10) (hb : ∀ a : Nat, a < 10 → I 9 a < 2 ^ 31) {Q : Int32 → PS → Prop} (hQ : ∀ (u' : PS) (m : Nat) (f : Nat → Nat), VC 69 ad S (va_up I 40 f) ln L E z u' → SRT (I 9) 10 f m → m ≤ 10 → Q (nI m) u') : p_D_takeTurns (ad 2) u Q := by
  have L4 : ∀ (d k m : Nat) (u : PS) (f : Nat → Nat), k + d = 10 → VC 69 ad S (va_up I 40 f) ln L E z u → SRT (I 9) k f m → p_D_takeTurns_L4 (ad 2) (fun y u => Q y u) (d + 1) (nI m) (nI k) u := by
    intro d
    induction d with
    | zero =>
      intro k m u f hk h hT
      obtain rfl : k = 10 := by omega
      rw [p_D_takeTurns_L4]
      exact pk_le 10 10 (fun _ => hQ u m f h hT hT.len) (fun w => absurd w (by omega))
    | succ d ih =>
      intro k m u f hk h hT
      rw [p_D_takeTurns_L4]
      refine pk_le 10 k (fun w => absurd w (by omega)) (fun _ => ?_)
      have hm := hT.len
      have b1 := hb k (by omega)
      refine ⟨_, h.fD (by decide) rfl, h.obN (by decide), q_N_asksFor h l9 (show k < 10 by omega) ?_⟩
      rw [up_ne I _ (show (9 : Nat) ≠ 40 by decide)]
      refine pk_le (I 9 k) 0 (fun w => ?_) (fun w => ?_)
      · unfold p_D_takeTurns_J84
        refine nm_e ?_
        rw [nI_1]
        exact ih (k + 1) m u f (by omega) h (hT.skip (by omega))
      · refine ⟨m + 1, q_D_tt_L26 l9 l40 hb (k := k) (m := m) (T := f) (by omega) (by omega) hT (fun u1 i f1 q1 q2 q3 q4 q5 q6 => ?_) m u f h (Nat.le_refl _) (fun _ _ => rfl) (fun j j1 j2 => absurd j2 (by omega)) (fun j j1 j2 => absurd j2 (by omega))⟩
        unfold p_D_takeTurns_J73
        obtain ⟨u2, s2, h2⟩ := q1.isx 40 (by decide) (ii (by decide)) (j := i) (by omega) (by omega) k
        rw [up_eq, bx_uu] at h2
        refine ⟨_, q1.fD (by decide) rfl, u2, s2, nm_e ?_⟩
        unfold p_D_takeTurns_J84
        refine nm_e ?_
        rw [nI_1, nI_1]
        refine ih (k + 1) (m + 1) u2 _ (by omega) h2 ?_
        have hs := hT.ins (i := i) (by omega) q2 q5 q6
        have ev : ∀ j : Nat, j < m + 1 → va_up f1 i k j = insO f i k j := fun j hj => by
          unfold insO
          by_cases c : j = i
          · subst c; rw [up_eq, if_neg (by omega), if_pos rfl]
          · rw [up_ne _ _ c]
            by_cases d : j < i
            · rw [if_pos d]; exact q3 j d
            · rw [if_neg d, if_neg c]; exact q4 j (by omega) (by omega)
        refine ⟨fun j hj => by rw [ev j hj]; exact hs.1 j hj, fun a b hab hb2 => by rw [ev a (by omega), ev b hb2]; exact hs.2.1 a b hab hb2, fun a ha hp => ?_⟩
        obtain ⟨j, hj, e⟩ := hs.2.2 a ha hp
        exact ⟨j, hj, by rw [ev j hj]; exact e⟩
  unfold p_D_takeTurns
  exact ⟨11, L4 10 0 0 u (I 40) (by omega) (by rw [up_id]; exact h) ⟨fun i hi => absurd hi (by omega), fun i j _ hj => absurd hj (by omega), fun a ha => absurd ha (by omega)⟩⟩
end TRS
