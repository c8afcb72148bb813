/-! the reference: inputsOf, pair -/
def iv (o : Nat → Nat) (w : Nat) : Nat → Nat
  | 0 => 0
  | j + 1 => if w.testBit (9 - j) then setb (iv o w j) (o j) true else iv o w j
theorem iv_lt {o : Nat → Nat} (ho : PO o) (w : Nat) : ∀ j : Nat, j ≤ 10 → iv o w j < 1024 := by
  intro j
  induction j with
  | zero => intro _; rw [iv]; omega
  | succ j ih =>
    intro hj
    rw [iv]
    split
    · exact setb_10 _ (ih (by omega)) (ho.1 j (by omega))
    · exact ih (by omega)
theorem tb_iv {o : Nat → Nat} (w : Nat) (j k : Nat) : (iv o w j).testBit k = true ↔ ∃ i : Nat, i < j ∧ o i = k ∧ w.testBit (9 - i) = true := by
  induction j with
  | zero =>
    rw [iv, Nat.zero_testBit]
    exact ⟨fun h => absurd h (by decide), fun ⟨i, hi, _⟩ => absurd hi (by omega)⟩
  | succ j ih =>
    rw [iv]
    by_cases c : w.testBit (9 - j) = true
    · rw [if_pos c, tb_setb]
      by_cases hk : k = o j
      · rw [if_pos hk]
        exact ⟨fun _ => ⟨j, by omega, hk.symm, c⟩, fun _ => rfl⟩
      · rw [if_neg hk, ih]
        constructor
        · rintro ⟨i, hi, e1, e2⟩
          exact ⟨i, by omega, e1, e2⟩
        · rintro ⟨i, hi, e1, e2⟩
          have : i ≠ j := fun z => hk (by rw [← e1, z])
          exact ⟨i, by omega, e1, e2⟩
    · rw [if_neg c, ih]
      constructor
      · rintro ⟨i, hi, e1, e2⟩
        exact ⟨i, by omega, e1, e2⟩
      · rintro ⟨i, hi, e1, e2⟩
        have : i ≠ j := fun z => c (by rw [← z]; exact e2)
        exact ⟨i, by omega, e1, e2⟩
theorem iv_num {o : Nat → Nat} (ho : PO o) (w : Nat) : iv o w 10 = numT (pre o w 10) 10 := by
  refine Nat.eq_of_testBit_eq (fun k => ?_)
  rw [tb_num]
  by_cases hk : k < 10
  · rw [decide_eq_true hk, Bool.true_and]
    obtain ⟨i, hi, rfl⟩ := ho.sur hk
    rw [pre_at ho 10 (by omega) w i hi]
    cases c : w.testBit (10 - 1 - i)
    · cases d : (iv o w 10).testBit (o i)
      · rfl
      · obtain ⟨i', hi', e1, e2⟩ := (tb_iv w 10 (o i)).mp d
        rw [ho.2 i' i hi' hi e1] at e2
        rw [show 10 - 1 - i = 9 - i by omega, e2] at c
        exact absurd c (by decide)
    · exact (tb_iv w 10 (o i)).mpr ⟨i, hi, rfl, by rw [show 9 - i = 10 - 1 - i by omega]; exact c⟩
  · rw [decide_eq_false hk, Bool.false_and]
    exact Nat.testBit_lt_two_pow (Nat.lt_of_lt_of_le (iv_lt ho w 10 (by omega)) (Nat.pow_le_pow_right (n := 2) (i := 10) (by omega) (by omega)))
/-- where a pair is looked for first -/
def hs (l h : Int32) : Nat := ((((l * (31 : Int32)) + (h * (1009 : Int32))) ^^^ (l >>> ((3 : Int32) &&& 31))) &&& (65535 : Int32)).toNatClampNeg
theorem hs_eq (l h : Int32) : (((l * (31 : Int32)) + (h * (1009 : Int32))) ^^^ (l >>> ((3 : Int32) &&& 31))) &&& (65535 : Int32) = nI (hs l h) ∧ hs l h < 65536 := by
  obtain ⟨k, hk, e⟩ := pk_andE (((l * (31 : Int32)) + (h * (1009 : Int32))) ^^^ (l >>> ((3 : Int32) &&& 31))) (m := 65535) 16 (by decide)
  unfold hs
  rw [e, nI_clamp (by omega)]
  exact ⟨rfl, by omega⟩
/-- the numbering of the pairs of one round: those from fr to m -/
def NT (s fr m : Nat) (lo hi sl st : Nat → Int32) : Prop :=
  fr ≤ m ∧ m ≤ 24576 ∧ s < 2 ^ 31 ∧ (∀ j : Nat, j < 65536 → ∃ r : Nat, r ≤ s ∧ st j = nI r) ∧
  (∀ j : Nat, j < 65536 → st j = nI s → ∃ i : Nat, fr ≤ i ∧ i < m ∧ sl j = nI i) ∧
  (∀ j j' : Nat, j < 65536 → j' < 65536 → st j = nI s → st j' = nI s → sl j = sl j' → j = j') ∧
  (∀ i : Nat, fr ≤ i → i < m → ∃ d : Nat, d < 65536 ∧ st ((hs (lo i) (hi i) + d) % 65536) = nI s ∧ sl ((hs (lo i) (hi i) + d) % 65536) = nI i ∧ ∀ d' : Nat, d' < d → st ((hs (lo i) (hi i) + d') % 65536) = nI s) ∧
  (∀ i i' : Nat, fr ≤ i → i < m → fr ≤ i' → i' < m → lo i = lo i' → hi i = hi i' → i = i')
theorem NT_start {s m : Nat} {lo hi sl st : Nat → Int32} (hm : m ≤ 24576) (hs1 : s + 1 < 2 ^ 31) (hst : ∀ j : Nat, j < 65536 → ∃ r : Nat, r ≤ s ∧ st j = nI r) : NT (s + 1) m m lo hi sl st := by
  have hno : ∀ j : Nat, j < 65536 → ¬ st j = nI (s + 1) := by
    intro j hj e
    obtain ⟨r, hr, e2⟩ := hst j hj
    rw [e2] at e
    have := (nI_eq (by omega) (by omega)).mp e
    omega
  refine ⟨Nat.le_refl _, hm, hs1, fun j hj => ?_, fun j hj e => absurd e (hno j hj), fun j j' hj _ e => absurd e (hno j hj), fun i h1 h2 => by omega, fun i i' h1 h2 => by omega⟩
  obtain ⟨r, hr, e⟩ := hst j hj
  exact ⟨r, by omega, e⟩
theorem NT_new {s fr m t : Nat} {lo hi sl st : Nat → Int32} {l h : Int32} (hN : NT s fr m lo hi sl st) (hm : m < 24576) (ht : t < 65536) (hfree : ¬ st ((hs l h + t) % 65536) = nI s) (hno : ∀ i : Nat, fr ≤ i → i < m → ¬ (lo i = l ∧ hi i = h)) (hocc : ∀ d : Nat, d < t → st ((hs l h + d) % 65536) = nI s) : NT s fr (m + 1) (upd lo m l) (upd hi m h) (upd sl ((hs l h + t) % 65536) (nI m)) (upd st ((hs l h + t) % 65536) (nI s)) := by
  obtain ⟨h1, h2, h3, h4, h5, h6, h7, h8⟩ := hN
  have hlt : (hs l h + t) % 65536 < 65536 := Nat.mod_lt _ (by omega)
  refine ⟨by omega, by omega, h3, ?_, ?_, ?_, ?_, ?_⟩
  · intro j hj
    by_cases e : j = (hs l h + t) % 65536
    · subst e; exact ⟨s, Nat.le_refl _, pk_us⟩
    · rw [pk_un e]; exact h4 j hj
  · intro j hj
    by_cases e : j = (hs l h + t) % 65536
    · subst e; intro _; exact ⟨m, h1, by omega, pk_us⟩
    · rw [pk_un e, pk_un e]
      intro q
      obtain ⟨i, hi1, hi2, e2⟩ := h5 j hj q
      exact ⟨i, hi1, by omega, e2⟩
  · intro j j' hj hj'
    by_cases e : j = (hs l h + t) % 65536 <;> by_cases e' : j' = (hs l h + t) % 65536
    · intros; rw [e, e']
    · subst e
      rw [pk_un e', pk_us, pk_un e']
      intro _ q1 q2
      obtain ⟨i, hi1, hi2, e2⟩ := h5 j' hj' q1
      rw [e2, pk_us] at q2
      have := (nI_eq (by omega) (by omega)).mp q2
      omega
    · subst e'
      rw [pk_un e, pk_us, pk_un e]
      intro q1 _ q2
      obtain ⟨i, hi1, hi2, e2⟩ := h5 j hj q1
      rw [e2, pk_us] at q2
      have := (nI_eq (by omega) (by omega)).mp q2
      omega
    · rw [pk_un e, pk_un e', pk_un e, pk_un e']
      exact h6 j j' hj hj'
  · intro i hi1 hi2
    by_cases e : i = m
    · subst e
      rw [pk_us, pk_us]
      refine ⟨t, ht, pk_us, pk_us, ?_⟩
      intro d hd
      by_cases e2 : (hs l h + d) % 65536 = (hs l h + t) % 65536
      · rw [e2]; exact pk_us
      · rw [pk_un e2]; exact hocc d hd
    · rw [pk_un e, pk_un e]
      obtain ⟨d, hd, e1, e2, e3⟩ := h7 i hi1 (by omega)
      have ne : (hs (lo i) (hi i) + d) % 65536 ≠ (hs l h + t) % 65536 := fun z => hfree (by rw [← z]; exact e1)
      refine ⟨d, hd, by rw [pk_un ne]; exact e1, by rw [pk_un ne]; exact e2, ?_⟩
      intro d' hd'
      by_cases e4 : (hs (lo i) (hi i) + d') % 65536 = (hs l h + t) % 65536
      · rw [e4]; exact pk_us
      · rw [pk_un e4]; exact e3 d' hd'
  · intro i i' a1 a2 b1 b2
    by_cases e : i = m <;> by_cases e' : i' = m
    · intros; omega
    · subst e
      rw [pk_us, pk_us, pk_un e', pk_un e']
      intro q r; exact absurd ⟨q.symm, r.symm⟩ (hno i' b1 (by omega))
    · subst e'
      rw [pk_us, pk_us, pk_un e, pk_un e]
      intro q r; exact absurd ⟨q, r⟩ (hno i a1 (by omega))
    · rw [pk_un e, pk_un e', pk_un e, pk_un e']
      exact h8 i i' a1 (by omega) b1 (by omega)
section PAIR
variable {ad : Nat → Nat} {S : Nat → Int32} {I : Nat → Nat → Int32} {b u : PS} {F : Nat → Nat → Bool} {o : Nat → Nat}
theorem q_M_inputsOf (h : VM ad S I b u) (h3 : ∀ i : Nat, i < 10 → I 3 i = nI (o i)) (ho : PO o) {w : Nat} (hw : w < 1024) {K : Int32 → PS → Prop} (hK : K (nI (numT (pre o w 10) 10)) u) : p_M_inputsOf (ad 0) (nI w) u K := by
  have go : ∀ (d j : Nat), j + d = 10 → p_M_inputsOf_L4 (ad 0) (nI w) K (d + 1) (nI (iv o w j)) (nI j) u := by
    intro d
    induction d with
    | zero =>
      intro j hj
      obtain rfl : j = 10 := by omega
      rw [p_M_inputsOf_L4]
      refine pk_le 10 10 (fun _ => ?_) (fun h9 => absurd h9 (by omega))
      rw [iv_num ho]
      exact hK
    | succ d ih =>
      intro j hj
      rw [p_M_inputsOf_L4]
      refine pk_le 10 j (fun h9 => absurd h9 (by omega)) (fun _ => ?_)
      refine ⟨_, h.fv rfl, _, h.ia 3 (by decide) (by decide) rfl (vp_in_nI (by show j < 10; omega) (by decide)), nm_e (nm_e ?_)⟩
      rw [nI_clamp (by omega), h3 j (by omega), show (9 : Int32) = nI 9 from rfl, pk_sub (by omega), tb_nI (by omega) (by omega), nI_1]
      have e : nI (iv o w j) ||| (bI (w.testBit (9 - j)) <<< (nI (o j) &&& 31)) = nI (iv o w (j + 1)) := by
        have ho1 := ho.1 j (by omega)
        rw [iv]
        cases c : w.testBit (9 - j)
        · rw [if_neg (by decide)]
          refine b_ext (fun i hi => ?_)
          rw [b_or, b_shl (o j) (by omega) _ hi]
          have : bt (bI false) (i - o j) = false := b_0 _
          rw [this, Bool.and_false, Bool.or_false]
        · rw [if_pos rfl]
          exact nI_set1 (by omega)
      rw [e]
      exact ih (j + 1) (by omega)
  exact ⟨11, go 10 0 rfl⟩
theorem q_M_pair_L (h : VM ad S I b u) {s fr m : Nat} (hN : NT s fr m (I 5) (I 6) (I 7) (I 8)) (hS : S 2 = nI s) {l r : Int32} {E68 E83 : Int32 → PS → Prop}
    (h68 : ∀ i : Nat, fr ≤ i → i < m → I 5 i = l → I 6 i = r → E68 (nI i) u)
    (h83 : ∀ t : Nat, t < 65536 → ¬ I 8 ((hs l r + t) % 65536) = nI s → (∀ i : Nat, fr ≤ i → i < m → ¬ (I 5 i = l ∧ I 6 i = r)) → (∀ d : Nat, d < t → I 8 ((hs l r + d) % 65536) = nI s) → E83 (nI ((hs l r + t) % 65536)) u) :
    ∀ (k t : Nat), t + k = 65537 → t ≤ 65536 → (∀ d : Nat, d < t → I 8 ((hs l r + d) % 65536) = nI s ∧ ∀ i : Nat, fr ≤ i → i < m → I 7 ((hs l r + d) % 65536) = nI i → ¬ (I 5 i = l ∧ I 6 i = r)) →
      p_M_pair_L25 (ad 0) l r E68 E83 k (nI ((hs l r + t) % 65536)) u := by
  obtain ⟨h1, h2, h3, h4, h5, h6, h7, h8⟩ := hN
  intro k
  induction k with
  | zero => intro t q1 q2; omega
  | succ k ih =>
    intro t hk ht hprev
    have hlt : (hs l r + t) % 65536 < 65536 := Nat.mod_lt _ (by omega)
    have ht' : t < 65536 := by
      rcases Nat.lt_or_ge t 65536 with q | q
      · exact q
      · exfalso
        have ht : t = 65536 := by omega
        subst ht
        have hall : ∀ j : Nat, j < 65536 → I 8 j = nI s := by
          intro j hj
          have hh := (hs_eq l r).2
          have := (hprev ((j + 65536 - hs l r) % 65536) (Nat.mod_lt _ (by omega))).1
          rwa [show (hs l r + (j + 65536 - hs l r) % 65536) % 65536 = j from by omega] at this
        refine no_inj m 65536 (fun j => (I 7 j).toNatClampNeg) (by omega) ?_ ?_
        · intro j hj
          obtain ⟨i, hi1, hi2, e⟩ := h5 j hj (hall j hj)
          show (I 7 j).toNatClampNeg < m
          rw [e, nI_clamp (by omega)]; exact hi2
        · intro j j' hj hj' e
          have e : (I 7 j).toNatClampNeg = (I 7 j').toNatClampNeg := e
          obtain ⟨i, hi1, hi2, e1⟩ := h5 j hj (hall j hj)
          obtain ⟨i', hi1', hi2', e2⟩ := h5 j' hj' (hall j' hj')
          rw [e1, e2, nI_clamp (by omega), nI_clamp (by omega)] at e
          exact h6 j j' hj hj' (hall j hj) (hall j' hj') (by rw [e1, e2, e])
    rw [p_M_pair_L25]
    refine ⟨_, h.fv rfl, _, h.ia 8 (by decide) (by decide) rfl (vp_in_nI hlt (by decide)), S 2, h.fv rfl, ?_⟩
    rw [nI_clamp (by omega), hS]
    by_cases c1 : I 8 ((hs l r + t) % 65536) = nI s
    · refine brn_t c1 ?_
      obtain ⟨i, hi1, hi2, e⟩ := h5 _ hlt c1
      refine ⟨_, h.fv rfl, _, h.ia 7 (by decide) (by decide) rfl (vp_in_nI hlt (by decide)), ?_⟩
      rw [nI_clamp (by omega), e]
      refine ⟨_, h.fv rfl, _, h.ia 5 (by decide) (by decide) rfl (vp_in_nI (by show i < 24576; omega) (by decide)), ?_⟩
      rw [nI_clamp (by omega)]
      have next : ¬ (I 5 i = l ∧ I 6 i = r) → p_M_pair_J73 (p_M_pair_L25 (ad 0) l r E68 E83 k) E68 E83 (ad 0) l r (nI ((hs l r + t) % 65536)) u := by
        intro c2
        unfold p_M_pair_J73
        refine nm_e ?_
        have ey : (nI ((hs l r + t) % 65536) + 1) &&& 65535 = nI ((hs l r + (t + 1)) % 65536) := by
          rw [nI_1, pk_andN (by omega) 16 (by decide)]
          congr 1
          omega
        rw [ey]
        refine ih (t + 1) (by omega) (by omega) (fun d hd => ?_)
        by_cases hdt : d = t
        · subst hdt
          refine ⟨c1, fun i' a1 a2 e' => ?_⟩
          rw [e] at e'
          have : i = i' := (nI_eq (by omega) (by omega)).mp e'
          rw [← this]; exact c2
        · exact hprev d (by omega)
      by_cases c2 : I 5 i = l
      · refine brn_t c2 ⟨_, h.fv rfl, _, h.ia 6 (by decide) (by decide) rfl (vp_in_nI (by show i < 24576; omega) (by decide)), ?_⟩
        rw [nI_clamp (by omega)]
        by_cases c3 : I 6 i = r
        · exact brn_t c3 (h68 i hi1 hi2 c2 c3)
        · exact brn_f c3 (next (fun z => c3 z.2))
      · exact brn_f c2 (next (fun z => c2 z.1))
    · refine brn_f c1 (h83 t ht' c1 ?_ (fun d hd => (hprev d hd).1))
      rintro i hi1 hi2 ⟨ek, er⟩
      obtain ⟨d, hd, e1, e2, e3⟩ := h7 i hi1 hi2
      rw [ek, er] at e1 e2 e3
      rcases Nat.lt_trichotomy d t with q | q | q
      · exact (hprev d q).2 i hi1 hi2 e2 ⟨ek, er⟩
      · subst q; exact c1 e1
      · exact c1 (e3 t q)
theorem q_M_pair (h : VM ad S I b u) {s fr m : Nat} (hN : NT s fr m (I 5) (I 6) (I 7) (I 8)) (hS : S 2 = nI s) (hm : S 1 = nI m) {l r : Int32} {K : Int32 → PS → Prop} (hcap : m < 24576)
    (hK1 : l = r → K l u)
    (hK2 : ∀ i : Nat, fr ≤ i → i < m → I 5 i = l → I 6 i = r → ¬ l = r → K (nI (2 + i)) u)
    (hK3 : ¬ l = r → (∀ i : Nat, fr ≤ i → i < m → ¬ (I 5 i = l ∧ I 6 i = r)) → ∀ (u' : PS) (S' : Nat → Int32) (I' : Nat → Nat → Int32), VM ad S' I' b u' → NT s fr (m + 1) (I' 5) (I' 6) (I' 7) (I' 8) → S' 0 = S 0 → S' 1 = nI (m + 1) → S' 2 = nI s → I' 5 = upd (I 5) m l → I' 6 = upd (I 6) m r → (∀ i : Nat, i < 5 → I' i = I i) → (∀ i : Nat, 8 < i → I' i = I i) → K (nI (2 + m)) u') :
    p_M_pair (ad 0) l r u K := by
  unfold p_M_pair
  by_cases c : l = r
  · exact brn_t c (hK1 c)
  · refine brn_f c (nm_e ?_)
    obtain ⟨he, hl⟩ := hs_eq l r
    rw [he]
    refine ⟨65537, ?_⟩
    have e0 : nI (hs l r) = nI ((hs l r + 0) % 65536) := by congr 1; omega
    rw [e0]
    refine q_M_pair_L h hN hS (E68 := fun y4_13 u_14 => p_M_pair_J68 K y4_13 u_14) (E83 := fun y3_15 u_16 => p_M_pair_J83 K (ad 0) l r y3_15 u_16) ?_ ?_ 65537 0 (by omega) (by omega) (by intro d hd; omega)
    · intro i hi1 hi2 e1 e2
      show K ((2 : Int32) + nI i) u
      rw [show (2 : Int32) = nI 2 from rfl, nI_add]
      exact hK2 i hi1 hi2 e1 e2 c
    · intro t ht hfree hno hocc
      have hlt : (hs l r + t) % 65536 < 65536 := Nat.mod_lt _ (by omega)
      have hN2 := NT_new hN hcap ht hfree hno hocc
      show p_M_pair_J83 K (ad 0) l r (nI ((hs l r + t) % 65536)) u
      unfold p_M_pair_J83
      refine ⟨_, h.fv rfl, S 2, h.fv rfl, ?_⟩
      obtain ⟨u1, s1, h1⟩ := h.is 8 (by decide) (by decide) rfl (j := nI ((hs l r + t) % 65536)) (vp_in_nI hlt (by decide)) (S 2)
      refine ⟨u1, s1, _, h1.fv rfl, S 1, h1.fv rfl, ?_⟩
      obtain ⟨u2, s2, h2⟩ := h1.is 7 (by decide) (by decide) rfl (j := nI ((hs l r + t) % 65536)) (vp_in_nI hlt (by decide)) (S 1)
      refine ⟨u2, s2, _, h2.fv rfl, S 1, h2.fv rfl, ?_⟩
      rw [hm]
      obtain ⟨u3, s3, h3⟩ := h2.is 5 (by decide) (by decide) rfl (j := nI m) (vp_in_nI hcap (by decide)) l
      refine ⟨u3, s3, _, h3.fv rfl, S 1, h3.fv rfl, ?_⟩
      rw [hm]
      obtain ⟨u4, s4, h4⟩ := h3.is 6 (by decide) (by decide) rfl (j := nI m) (vp_in_nI hcap (by decide)) r
      refine ⟨u4, s4, S 1, h4.fv rfl, ?_⟩
      rw [hm, nI_1]
      obtain ⟨u5, s5, h5⟩ := h4.pv 5 1 (nI (m + 1)) (by decide) rfl
      refine ⟨u5, s5, nI (m + 1), h5.fv rfl, ?_⟩
      rw [show (1 : Int32) = nI 1 from rfl, nI_add, show 1 + (m + 1) = 2 + m by omega]
      refine hK3 c hno u5 _ _ h5 ?_ rfl rfl ?_ ?_ ?_ ?_ ?_
      · rw [nI_clamp (show m < 2 ^ 31 by omega), nI_clamp (show (hs l r + t) % 65536 < 2 ^ 31 by omega), hS, hm]
        exact hN2
      · exact hS
      · rw [nI_clamp (show m < 2 ^ 31 by omega)]; rfl
      · rw [nI_clamp (show m < 2 ^ 31 by omega)]; rfl
      · intro i hi
        rw [up_ne _ _ (by omega), up_ne _ _ (by omega), up_ne _ _ (by omega), up_ne _ _ (by omega)]
      · intro i hi
        rw [up_ne _ _ (by omega), up_ne _ _ (by omega), up_ne _ _ (by omega), up_ne _ _ (by omega)]
end PAIR
