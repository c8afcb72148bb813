/-! the reference: move, sift, siftAll, questions -/
theorem va_cong {o o' : Nat → Nat} {n : Nat} {S : Nat → Int32} {I : Nat → Nat → Int32} (h : RQ o n S I) (A : Nat → Int32) (hA : ∀ i : Nat, i < 10 → A i = nI (o' i)) : RQ o' n S (va_up I 3 A) := by
  obtain ⟨h1, s, h2, h4, h5⟩ := h
  refine ⟨fun j hj => ?_, s, h2, h4, fun j hj => ?_⟩
  · rw [up_eq]; exact hA j hj
  · rw [up_ne I _ (by decide)]; exact h5 j hj
section MV
variable {ad : Nat → Nat} {S : Nat → Int32} {I : Nat → Nat → Int32} {b u : PS} {F : Nat → Nat → Bool} {o : Nat → Nat} {t : Int32} {n : Nat} {k10 k11 : Nat → Int32}
theorem q_M_placeOf (h : VM ad S I b u) (h3 : ∀ i : Nat, i < 10 → I 3 i = nI (o i)) (ho : PO o) {k : Nat} (hk : k < 10) {K : Int32 → PS → Prop} (hK : K (nI (posO o k)) u) : p_M_placeOf (ad 0) (nI k) u K := by
  obtain ⟨p1, p2⟩ := posO_spec ho hk
  have go : ∀ (d j : Nat), j + d = posO o k → p_M_placeOf_L2 (ad 0) (nI k) K (d + 1) (nI j) u := by
    intro d
    induction d with
    | zero =>
      intro j hj
      rw [p_M_placeOf_L2]
      refine ⟨_, h.fv rfl, _, h.ia 3 (by decide) (by decide) rfl (vp_in_nI (by show j < 10; omega) (by decide)), ?_⟩
      rw [nI_clamp (by omega), h3 j (by omega), show j = posO o k by omega, p2]
      exact br_t rfl hK
    | succ d ih =>
      intro j hj
      rw [p_M_placeOf_L2]
      refine ⟨_, h.fv rfl, _, h.ia 3 (by decide) (by decide) rfl (vp_in_nI (by show j < 10; omega) (by decide)), ?_⟩
      rw [nI_clamp (by omega), h3 j (by omega)]
      have ho1 := ho.1 j (by omega)
      have ne : ¬ nI (o j) = nI k := fun z => by
        have e := (nI_eq (by omega) (by omega)).mp z
        have := ho.2 j (posO o k) (by omega) p1 (e.trans p2.symm)
        omega
      refine br_f ne (nm_e ?_)
      rw [nI_1]
      exact ih (j + 1) (by omega)
  exact ⟨posO o k + 1, go _ 0 (by omega)⟩
theorem st_ord {A : Nat → Int32} (h : VM ad S (va_up I 3 A) b u) {j : Nat} (hj : j < 10) (x : Int32) {R : PS → Prop} (hR : ∀ u' : PS, VM ad S (va_up I 3 (upd A j x)) b u' → R u') : ∃ u' : PS, x_is u (ad 3) (nI j) x u' ∧ R u' := by
  obtain ⟨u1, s1, h1⟩ := h.is 3 (by decide) (by decide) rfl (j := nI j) (vp_in_nI (by show _ < 10; omega) (by decide)) x
  rw [bx_uu, nI_clamp (by omega), up_eq] at h1
  exact ⟨u1, s1, hR u1 h1⟩
theorem rd_ord {A : Nat → Int32} (h : VM ad S (va_up I 3 A) b u) {j : Nat} (hj : j < 10) : x_ia u (ad 3) (nI j) (A j) := by
  have h1 := h.ia 3 (by decide) (by decide) rfl (j := nI j) (vp_in_nI (by show _ < 10; omega) (by decide))
  rw [nI_clamp (by omega), up_eq] at h1
  exact h1
theorem q_M_mv_L9 {at' : Nat} {x1 x2 : Int32} (hat : at' < 10) {E : PS → Prop} (hE : ∀ (u' : PS) (A : Nat → Int32), VM ad S (va_up I 3 A) b u' → (∀ i : Nat, i < 10 → A i = nI (if at' ≤ i ∧ i < 9 then o (i + 1) else o i)) → E u') : ∀ (d j : Nat) (u : PS) (A : Nat → Int32), at' ≤ j → j + d = 9 → VM ad S (va_up I 3 A) b u → (∀ i : Nat, i < 10 → A i = nI (if at' ≤ i ∧ i < j then o (i + 1) else o i)) → p_M_moveTo_L9 (ad 0) x1 x2 E (d + 1) (nI j) u := by
  intro d
  induction d with
  | zero =>
    intro j u A ha hj h hA
    obtain rfl : j = 9 := by omega
    rw [p_M_moveTo_L9]
    exact br_t (by decide) (hE u A h hA)
  | succ d ih =>
    intro j u A ha hj h hA
    rw [p_M_moveTo_L9, nI_1]
    refine br_f (nI_ge (show j + 1 < 10 by omega) (by decide)) ⟨_, h.fv rfl, _, h.fv rfl, _, rd_ord h (by omega), ?_⟩
    refine st_ord h (by omega) _ (fun u1 h1 => nm_e ?_)
    refine ih (j + 1) u1 _ (by omega) (by omega) h1 (fun i hi => ?_)
    by_cases e : i = j
    · subst e
      rw [pk_us, hA (i + 1) (by omega), if_neg (by omega), if_pos (by omega)]
    · rw [pk_un e, hA i hi]
      by_cases c : at' ≤ i ∧ i < j
      · rw [if_pos c, if_pos (by omega)]
      · rw [if_neg c, if_neg (by omega)]
theorem q_M_mv_L44 {to : Nat} {x1 : Int32} {f : Nat → Nat} (hto : to < 10) {E : PS → Prop} (hE : ∀ (u' : PS) (A : Nat → Int32), VM ad S (va_up I 3 A) b u' → (∀ i : Nat, i < 10 → A i = nI (if to < i then f (i - 1) else f i)) → E u') : ∀ (d j : Nat) (u : PS) (A : Nat → Int32), to + d = j → j < 10 → VM ad S (va_up I 3 A) b u → (∀ i : Nat, i < 10 → A i = nI (if j < i then f (i - 1) else f i)) → p_M_moveTo_L44 (ad 0) x1 (nI to) E (d + 1) (nI j) u := by
  intro d
  induction d with
  | zero =>
    intro j u A ha hj h hA
    obtain rfl : j = to := by omega
    rw [p_M_moveTo_L44]
    exact br_t (nI_le (Nat.le_refl _) (by omega)) (hE u A h hA)
  | succ d ih =>
    intro j u A ha hj h hA
    obtain ⟨j', rfl⟩ : ∃ j', j = j' + 1 := ⟨j - 1, by omega⟩
    rw [p_M_moveTo_L44, pk_m1, nI_pred]
    refine br_f (nI_ge (show to < j' + 1 by omega) (by omega)) ⟨_, h.fv rfl, _, h.fv rfl, _, rd_ord h (by omega), ?_⟩
    refine st_ord h (by omega) _ (fun u1 h1 => nm_e ?_)
    refine ih j' u1 _ (by omega) (by omega) h1 (fun i hi => ?_)
    by_cases e : i = j' + 1
    · subst e
      rw [pk_us, hA j' (by omega), if_neg (by omega), if_pos (by omega), Nat.add_sub_cancel]
    · rw [pk_un e, hA i hi]
      by_cases c : j' + 1 < i
      · rw [if_pos c, if_pos (by omega)]
      · rw [if_neg c, if_neg (by omega)]
theorem q_M_moveTo (h : RK ad b F o t n k10 k11 u) (ho : PO o) {k to : Nat} (hk : k < 10) (hto : to < 10) {K : PS → Prop} (hK : ∀ u' : PS, RK ad b F (mvO o k to) t n k10 k11 u' → K u') : p_M_moveTo (ad 0) (nI k) (nI to) u K := by
  obtain ⟨S, I, h, hF, hq, ht, h10, h11⟩ := h
  obtain ⟨p1, p2⟩ := posO_spec ho hk
  unfold p_M_moveTo
  refine ⟨h.ob, q_M_placeOf h hq.1 ho hk ⟨9 - posO o k + 1, ?_⟩⟩
  refine q_M_mv_L9 (o := o) (S := S) (I := I) (b := b) p1 (fun u1 A h1 hA => ?_) (9 - posO o k) (posO o k) u (I 3) (Nat.le_refl _) (by omega) (by rw [up_id]; exact h) (fun i hi => by rw [if_neg (by omega)]; exact hq.1 i hi)
  unfold p_M_moveTo_J40
  refine ⟨9 - to + 1, ?_⟩
  refine q_M_mv_L44 (f := fun i => if posO o k ≤ i ∧ i < 9 then o (i + 1) else o i) (S := S) (I := I) (b := b) hto (fun u2 A2 h2 hA2 => ?_) (9 - to) 9 u1 A (by omega) (by omega) h1 (fun i hi => by rw [if_neg (by omega)]; exact hA i hi)
  unfold p_M_moveTo_J72
  refine ⟨_, h2.fv rfl, st_ord h2 hto _ (fun u3 h3 => hK u3 ⟨S, _, h3, hF.made (by decide) _, va_cong hq _ (fun i hi => ?_), ht, ?_, ?_⟩)⟩
  · unfold mvO insO remO
    by_cases e : i = to
    · subst e
      rw [pk_us, if_neg (by omega), if_pos rfl]
    · rw [pk_un e, hA2 i hi]
      by_cases c : i < to
      · rw [if_neg (by omega), if_pos c]
        by_cases d : i < posO o k
        · rw [if_neg (by omega), if_pos d]
        · rw [if_pos (by omega), if_neg d]
      · rw [if_pos (by omega), if_neg c, if_neg e]
        by_cases d : i - 1 < posO o k
        · rw [if_neg (by omega), if_pos d]
        · rw [if_pos (by omega), if_neg d]
  · rw [up_ne _ _ (by decide)]; exact h10
  · rw [up_ne _ _ (by decide)]; exact h11
noncomputable def sp_move (x y : Int32) (F : Nat → Nat → Bool) (o : Nat → Nat) : (Int32 × Int32) × (Nat → Nat) := if okI x && okI y then ((0, nI (wh (PR 0 24) F (mvO o x.toNatClampNeg y.toNatClampNeg))), mvO o x.toNatClampNeg y.toNatClampNeg) else ((1, 0), o)
theorem q_M_move (h : RM ad b F o t n u) (ho : PO o) (hn : n + 10 < 2 ^ 31) {x y : Int32} {K : Int32 → PS → Prop} (hK : ∀ u' : PS, RM ad b F (sp_move x y F o).2 (sp_move x y F o).1.1 (n + 10) u' → K (sp_move x y F o).1.2 u') : p_M_move (ad 0) x y u K := by
  obtain ⟨S, I, h, hF, hq, ht⟩ := h.un
  have j : ∀ c : Bool, c = (!(okI x && okI y)) → p_M_move_J23 K (ad 0) x y (ad 0) (bI c) u := by
    intro c hc
    refine ⟨h.ob, q_M_rf2 (d := false) h hF hq (fun u' hcd h' => ?_) (fun u' S' hc' hd' h' hq' h0 hR => ?_)⟩
    · have hx : (okI x && okI y) = false := by subst hc; cases hx : (okI x && okI y); rfl; rw [hx] at hcd; exact absurd hcd (by decide)
      have e : sp_move x y F o = ((1, 0), o) := by
        unfold sp_move
        rw [hx]; rfl
      have := hK u'
      rw [e] at this
      rw [hc, hx] at h'
      exact this (h'.mono (by omega))
    · subst hc
      have hx := ts_b hc'
      have hx3 := hx
      simp only [Bool.and_eq_true] at hx3
      obtain ⟨k, hk, rfl⟩ := okI_nI hx3.1
      obtain ⟨to, hto, rfl⟩ := okI_nI hx3.2
      have e : sp_move (nI k) (nI to) F o = ((0, nI (wh (PR 0 24) F (mvO o k to))), mvO o k to) := by
        unfold sp_move
        rw [if_pos hx, nI_clamp (by omega), nI_clamp (by omega)]
      obtain ⟨k10, k11, hR⟩ := hR.rk
      refine ⟨h'.ob, q_M_moveTo hR ho hk hto (fun u2 h2 => ⟨h2.ob, q_M_whole h2 (mvO_PO ho hk hto) hn (fun u3 h3 _ => ?_)⟩)⟩
      have := hK u3
      rw [e] at this
      exact this h3.rm
  unfold p_M_move p_M_move_J18
  simp only [e_isInput, e_in, e_okI]
  cases hx : okI x
  · exact br_t rfl (j true (by rw [hx]; rfl))
  · refine br_f (by decide) ?_
    cases hy : okI y
    · exact brn_t rfl (j true (by rw [hx, hy]; rfl))
    · exact brn_f (by decide) (j false (by rw [hx, hy]; rfl))
theorem q_M_sift_L (ho : PO o) {k : Nat} (hk : k < 10) (hn : n + 100 < 2 ^ 31) {E : Int32 → PS → Prop} (hE : ∀ u' : PS, RK ad b F (mvO o k 9) t (n + 100) k10 k11 u' → E (nI (siftP F o k)) u') : ∀ (d j : Nat) (u : PS) (x2 x3 : Int32), j + d = 10 → (if j = 0 then x2 = -1 ∧ x3 = 0 ∧ RK ad b F o t n k10 k11 u else x2 = nI (bst (szs F o k) (j - 1)) ∧ x3 = nI (szs F o k (bst (szs F o k) (j - 1))) ∧ szs F o k (bst (szs F o k) (j - 1)) ≤ 24576 ∧ RK ad b F (mvO o k (j - 1)) t (n + 10 * j) k10 k11 u) → p_M_siftInput_L7 (ad 0) (nI k) E (d + 1) x2 x3 (nI j) u := by
  intro d
  induction d with
  | zero =>
    intro j u x2 x3 hj h
    obtain rfl : j = 10 := by omega
    rw [if_neg (by omega)] at h
    obtain ⟨rfl, rfl, _, h⟩ := h
    rw [p_M_siftInput_L7]
    exact pk_le 10 10 (fun _ => hE u h) (fun h9 => absurd h9 (by omega))
  | succ d ih =>
    intro j u x2 x3 hj h
    rw [p_M_siftInput_L7]
    refine pk_le 10 j (fun h9 => absurd h9 (by omega)) (fun _ => ?_)
    have hkeep : ∀ (j' : Nat) (hj' : j' < 10) (o' : Nat → Nat), PO o' → mvO o' k j = mvO o k j → RK ad b F o' t (n + 10 * j) k10 k11 u → x_ob u (ad 0) 6 ∧ p_M_moveTo (ad 0) (nI k) (nI j) u (fun (u_1 : PS) => (x_ob u_1 (ad 0) 6 ∧ (p_M_whole (ad 0) u_1 (fun (r_3 : Int32) (u_2 : PS) => ((x2 < 0 → (p_M_siftInput_J37 (p_M_siftInput_L7 (ad 0) (nI k) E (d + 1)) E (ad 0) (nI k) x3 (nI j) r_3 u_2)) ∧ (¬ x2 < 0 → ((x3 ≤ r_3 → (p_M_siftInput_J43 (p_M_siftInput_L7 (ad 0) (nI k) E (d + 1)) E (ad 0) (nI k) x3 (nI j) r_3 x2 u_2)) ∧ (¬ x3 ≤ r_3 → (p_M_siftInput_J37 (p_M_siftInput_L7 (ad 0) (nI k) E (d + 1)) E (ad 0) (nI k) x3 (nI j) r_3 u_2)))))))))  := by
      intro j' hj' o' ho' em hR
      refine ⟨hR.ob, q_M_moveTo hR ho' hk (by omega) (fun u1 h1 => ⟨h1.ob, ?_⟩)⟩
      rw [em] at h1
      refine q_M_whole h1 (mvO_PO ho hk (by omega)) (by omega) (fun u2 h2 hw => ?_)
      have hnext : RK ad b F (mvO o k (j + 1 - 1)) t (n + 10 * (j + 1)) k10 k11 u2 := by
        rw [Nat.add_sub_cancel]
        exact h2.rk.mono (by omega)
      have hle := bst_le (szs F o k) (j - 1)
      -- the new best is j
      have take : (j = 0 ∨ szs F o k j < szs F o k (bst (szs F o k) (j - 1))) → p_M_siftInput_J37 (p_M_siftInput_L7 (ad 0) (nI k) E (d + 1)) E (ad 0) (nI k) x3 (nI j) (nI (wh (PR 0 24) F (mvO o k j))) u2 := by
        intro hc
        unfold p_M_siftInput_J37 p_M_siftInput_J43 p_M_siftInput_J56
        refine brn_t rfl (nm_e ?_)
        rw [nI_1]
        have eb : bst (szs F o k) (j + 1 - 1) = j := by
          rw [Nat.add_sub_cancel]
          cases j with
          | zero => rfl
          | succ i =>
            rw [bst]
            rcases hc with q | q
            · omega
            · rw [Nat.add_sub_cancel] at q
              rw [if_pos q]
        refine ih (j + 1) u2 _ _ (by omega) ?_
        rw [if_neg (by omega), eb]
        exact ⟨rfl, rfl, hw, hnext⟩
      by_cases c0 : j = 0
      · subst c0
        rw [if_pos rfl] at h
        obtain ⟨rfl, rfl, _⟩ := h
        exact br_t (by decide) (take (Or.inl rfl))
      · rw [if_neg c0] at h
        obtain ⟨rfl, rfl, hw2, _⟩ := h
        refine br_f (nI_pos (by omega)) ?_
        show (nI (szs F o k (bst (szs F o k) (j - 1))) ≤ nI (szs F o k j) → _) ∧ _
        refine pk_le _ _ (fun q => ?_) (fun q => take (Or.inr q)) (by rfl) (by rfl) (by omega) (by show wh _ _ _ < _; omega)
        unfold p_M_siftInput_J43 p_M_siftInput_J56
        have ne : ¬ nI (bst (szs F o k) (j - 1)) = nI j := fun z => by
          have := (nI_eq (by omega) (by omega)).mp z
          omega
        refine brn_f ne (nm_e ?_)
        rw [nI_1]
        have eb : bst (szs F o k) (j + 1 - 1) = bst (szs F o k) (j - 1) := by
          rw [Nat.add_sub_cancel]
          cases j with
          | zero => omega
          | succ i =>
            rw [Nat.add_sub_cancel] at q ⊢
            rw [bst, if_neg (by omega)]
        refine ih (j + 1) u2 _ _ (by omega) ?_
        rw [if_neg (by omega), eb]
        exact ⟨rfl, rfl, hw2, hnext⟩
    by_cases c0 : j = 0
    · have h' := h
      rw [if_pos c0] at h'
      exact hkeep j (by omega) o ho rfl (h'.2.2.mono (by omega))
    · have h' := h
      rw [if_neg c0] at h'
      exact hkeep j (by omega) (mvO o k (j - 1)) (mvO_PO ho hk (by omega)) (mvO_mvO ho hk (by omega)) h'.2.2.2
theorem q_M_siftInput (h : RK ad b F o t n k10 k11 u) (ho : PO o) {k : Nat} (hk : k < 10) (hn : n + 100 < 2 ^ 31) {K : Int32 → PS → Prop} (hK : ∀ u' : PS, RK ad b F (siftO F o k) t (n + 100) k10 k11 u' → K (nI (siftP F o k)) u') : p_M_siftInput (ad 0) (nI k) u K := by
  unfold p_M_siftInput
  refine ⟨11, q_M_sift_L (b := b) (F := F) (t := t) (k10 := k10) (k11 := k11) ho hk hn (fun u' h' => ?_) 10 0 u (-1) 0 rfl (by rw [if_pos rfl]; exact ⟨rfl, rfl, h⟩)⟩
  unfold p_M_siftInput_J63
  refine ⟨h'.ob, q_M_moveTo h' (mvO_PO ho hk (by omega)) hk (siftP_lt F o k) (fun u2 h2 => hK u2 ?_)⟩
  rw [mvO_mvO ho hk (by omega)] at h2
  exact h2
noncomputable def sp_sift (x : Int32) (F : Nat → Nat → Bool) (o : Nat → Nat) : (Int32 × Int32) × (Nat → Nat) := if okI x then ((0, nI (siftP F o x.toNatClampNeg)), siftO F o x.toNatClampNeg) else ((1, 0), o)
theorem q_M_sift (h : RM ad b F o t n u) (ho : PO o) (hn : n + 100 < 2 ^ 31) {x : Int32} {K : Int32 → PS → Prop} (hK : ∀ u' : PS, RM ad b F (sp_sift x F o).2 (sp_sift x F o).1.1 (n + 100) u' → K (sp_sift x F o).1.2 u') : p_M_sift (ad 0) x u K := by
  obtain ⟨S, I, h, hF, hq, ht⟩ := h.un
  have j : ∀ c : Bool, c = (!okI x) → p_M_sift_J13 K (ad 0) x (ad 0) (bI c) u := by
    intro c hc
    refine ⟨h.ob, q_M_rf2 (d := false) h hF hq (fun u' hcd h' => ?_) (fun u' S' hc' hd' h' hq' h0 hR => ?_)⟩
    · have hx : okI x = false := by subst hc; cases hx : okI x; rfl; rw [hx] at hcd; exact absurd hcd (by decide)
      have e : sp_sift x F o = ((1, 0), o) := by
        unfold sp_sift
        rw [hx]; rfl
      have := hK u'
      rw [e] at this
      rw [hc, hx] at h'
      exact this (h'.mono (by omega))
    · subst hc
      have hx := ts_b hc'
      obtain ⟨k, hk, rfl⟩ := okI_nI hx
      have e : sp_sift (nI k) F o = ((0, nI (siftP F o k)), siftO F o k) := by
        unfold sp_sift
        rw [if_pos hx, nI_clamp (by omega)]
      obtain ⟨k10, k11, hR⟩ := hR.rk
      refine ⟨h'.ob, q_M_siftInput hR ho hk hn (fun u2 h2 => ?_)⟩
      have := hK u2
      rw [e] at this
      exact this h2.rm
  unfold p_M_sift
  rw [e_isInput]
  cases hx : okI x
  · exact brn_t rfl (j true (by rw [hx]; rfl))
  · exact brn_f (by decide) (j false (by rw [hx]; rfl))
noncomputable def sp_questions (x : Int32) (F : Nat → Nat → Bool) (o : Nat → Nat) : Int32 × Int32 := if okI x then (0, nI (kpO F o x.toNatClampNeg)) else (1, 0)
theorem q_M_questions (h : RM ad b F o t n u) (ho : PO o) (hn : n + 10 < 2 ^ 31) {x : Int32} {K : Int32 → PS → Prop} (hK : ∀ u' : PS, RM ad b F o (sp_questions x F o).1 (n + 10) u' → K (sp_questions x F o).2 u') : p_M_questions (ad 0) x u K := by
  obtain ⟨S, I, h, hF, hq, ht⟩ := h.un
  have j : ∀ c : Bool, c = (!okI x) → p_M_questions_J13 K (ad 0) x (ad 0) (bI c) u := by
    intro c hc
    refine ⟨h.ob, q_M_rf2 (d := false) h hF hq (fun u' hcd h' => ?_) (fun u' S' hc' hd' h' hq' h0 hR => ?_)⟩
    · have hx : okI x = false := by subst hc; cases hx : okI x; rfl; rw [hx] at hcd; exact absurd hcd (by decide)
      have e : sp_questions x F o = (1, 0) := by
        unfold sp_questions
        rw [hx]; rfl
      have := hK u'
      rw [e] at this
      rw [hc, hx] at h'
      exact this (h'.mono (by omega))
    · subst hc
      have hx := ts_b hc'
      obtain ⟨k, hk, rfl⟩ := okI_nI hx
      have e : sp_questions (nI k) F o = (0, nI (kpO F o k)) := by
        unfold sp_questions
        rw [if_pos hx, nI_clamp (by omega)]
      obtain ⟨k10, k11, hR⟩ := hR.rk
      refine ⟨h'.ob, q_M_whole hR ho hn (fun u2 h2 _ => ?_)⟩
      have h2m := h2.rm
      obtain ⟨S2, I2, g, -, -, -, g9, -⟩ := h2
      have := hK u2
      rw [e] at this
      obtain ⟨p1, p2⟩ := posO_spec ho hk
      refine ⟨_, g.fv rfl, _, g.ia 9 (by decide) (by decide) rfl (vp_in_nI (by show k < 10; omega) (by decide)), ?_⟩
      rw [nI_clamp (by omega)]
      have e9 := g9 _ p1
      rw [p2] at e9
      rw [e9]
      exact this h2m
  unfold p_M_questions
  rw [e_isInput]
  cases hx : okI x
  · exact brn_t rfl (j true (by rw [hx]; rfl))
  · exact brn_f (by decide) (j false (by rw [hx]; rfl))
end MV
