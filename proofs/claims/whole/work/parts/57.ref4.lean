/-! the reference: quantify, meet -/
def q1 (ev : Bool) (f : Nat → Bool) (k : Nat) : Nat → Bool := fun i => if ev then f (setb i k false) && f (setb i k true) else f (setb i k false) || f (setb i k true)
def qmk (ev : Bool) (f : Nat → Bool) (k v : Nat) : Nat → Bool := fun i => if setb i k false < v then q1 ev f k i else f i
def qs (ev : Bool) (set : Nat) (f : Nat → Bool) : Nat → Nat → Bool
  | 0 => f
  | k + 1 => if set.testBit k then q1 ev (qs ev set f k) k else qs ev set f k
theorem setb0_le (v k : Nat) : setb v k false ≤ v := by
  unfold setb
  by_cases h : v.testBit k = false
  · rw [if_pos h]; exact Nat.le_refl _
  · rw [if_neg h]
    have h1 : v.testBit k = true := by cases hc : v.testBit k; exact absurd hc h; rfl
    have e : v ^^^ 2 ^ k = v &&& (v ^^^ 2 ^ k) := by
      refine Nat.eq_of_testBit_eq (fun i => ?_)
      rw [Nat.testBit_and, Nat.testBit_xor, Nat.testBit_two_pow]
      by_cases hi : k = i
      · subst hi; rw [h1]; simp
      · rw [decide_eq_false hi, Bool.xor_false, Bool.and_self]
    rw [e]
    exact Nat.and_le_left
theorem qmk_0 (ev : Bool) (f : Nat → Bool) (k : Nat) : qmk ev f k 0 = f := by
  funext i
  exact if_neg (by omega)
theorem qmk_hi {ev : Bool} {f : Nat → Bool} {k v : Nat} (hv : v.testBit k = true) : qmk ev f k (v + 1) = qmk ev f k v := by
  funext i
  unfold qmk
  have ne : setb i k false ≠ v := fun e => by
    have := tb_setb i k false k
    rw [e, hv, if_pos rfl] at this
    exact absurd this (by decide)
  by_cases h : setb i k false < v
  · rw [if_pos h, if_pos (by omega)]
  · rw [if_neg h, if_neg (by omega)]
theorem qmk_lo {ev : Bool} {f : Nat → Bool} {k v : Nat} (hv : v.testBit k = false) : (fun i => if i = setb v k true then q1 ev f k v else if i = v then q1 ev f k v else qmk ev f k v i) = qmk ev f k (v + 1) := by
  funext i
  have e0 : setb v k false = v := setb_self hv
  by_cases h : i = setb v k true
  · subst h
    rw [if_pos rfl]
    unfold qmk
    rw [setb_setb, e0, if_pos (by omega)]
    unfold q1
    rw [setb_setb, setb_setb]
  · rw [if_neg h]
    by_cases h2 : i = v
    · subst h2
      rw [if_pos rfl]
      unfold qmk
      rw [e0, if_pos (by omega)]
    · rw [if_neg h2]
      unfold qmk
      have ne : setb i k false ≠ v := fun e => by
        cases hb : i.testBit k
        · rw [setb_self hb] at e; exact h2 e
        · apply h
          rw [← e, setb_setb, setb_self hb]
      by_cases h3 : setb i k false < v
      · rw [if_pos h3, if_pos (by omega)]
      · rw [if_neg h3, if_neg (by omega)]
theorem qmk_end {ev : Bool} {f : Nat → Bool} {k i : Nat} (hi : i < 1024) : qmk ev f k 1024 i = q1 ev f k i := if_pos (Nat.lt_of_le_of_lt (setb0_le i k) hi)
theorem mkm_eq {f : Nat → Int32} {g g' : Nat → Bool} {v : Nat} (h : ∀ i : Nat, i < v → g i = g' i) : mkm f g v = mkm f g' v := by
  funext i
  unfold mkm
  by_cases hi : i < v
  · rw [if_pos hi, if_pos hi, h i hi]
  · rw [if_neg hi, if_neg hi]
section REF4
variable {ad : Nat → Nat} {S : Nat → Int32} {I : Nat → Nat → Int32} {b u : PS} {F : Nat → Nat → Bool} {f g : Nat → Bool} {o : Nat → Nat} {t : Int32} {n : Nat}
theorem st_madeJ {j : Nat} {c : Bool} (h : VM ad S (va_up I 2 (mkm (I 2) g 1024)) b u) (hj : j < 1024) {R : PS → Prop} (hR : ∀ u' : PS, VM ad S (va_up I 2 (mkm (I 2) (fun i => if i = j then c else g i) 1024)) b u' → R u') : ∃ u' : PS, x_zs u (ad 2) (nI j) (bI c) u' ∧ R u' := by
  obtain ⟨u1, s1, h1⟩ := h.zs 2 (by decide) (by decide) rfl (j := nI j) (vp_in_nI (by show _ < 1024; omega) (by decide)) (bI_z2 c)
  rw [bx_uu, nI_clamp (by omega), up_eq] at h1
  have e : upd (mkm (I 2) g 1024) j (bI c) = mkm (I 2) (fun i => if i = j then c else g i) 1024 := by
    funext i
    by_cases hi : i = j
    · subst hi
      rw [pk_us]
      unfold mkm
      rw [if_pos hj]
      show bI c = bI (if i = i then c else g i)
      rw [if_pos rfl]
    · rw [pk_un hi]
      unfold mkm
      show _ = if i < 1024 then bI (if i = j then c else g i) else I 2 i
      rw [if_neg hi]
  rw [e] at h1
  exact ⟨u1, s1, hR u1 h1⟩
theorem rd_made {j : Nat} (h : VM ad S (va_up I 2 (mkm (I 2) g 1024)) b u) (hj : j < 1024) : x_za u (ad 2) (nI j) (bI (g j)) := by
  have h1 := h.za 2 (by decide) (by decide) rfl (j := nI j) (vp_in_nI (by show _ < 1024; omega) (by decide))
  rw [nI_clamp (by omega), up_eq] at h1
  unfold mkm at h1
  rw [if_pos hj] at h1
  exact h1
theorem q_M_qm_L {set k : Nat} {ev : Bool} (hs : set < 1024) (hk : k < 10) (hbit : set.testBit k = true) {E : PS → Prop} (hE : ∀ u' : PS, VM ad S (va_up I 2 (mkm (I 2) (q1 ev f k) 1024)) b u' → E u') : ∀ (d v : Nat) (u : PS), v + d = 1024 → VM ad S (va_up I 2 (mkm (I 2) (qmk ev f k v) 1024)) b u → p_M_quantifyMade_L11 (ad 0) (nI set) (bI ev) (nI k) E (d + 1) (nI v) u := by
  intro d
  induction d with
  | zero =>
    intro v u hv h
    obtain rfl : v = 1024 := by omega
    rw [p_M_quantifyMade_L11]
    refine pk_le 1024 1024 (fun _ => hE u ?_) (fun h9 => absurd h9 (by omega))
    rw [mkm_eq (fun i hi => qmk_end hi)] at h
    exact h
  | succ d ih =>
    intro v u hv h
    rw [p_M_quantifyMade_L11]
    refine pk_le 1024 v (fun h9 => absurd h9 (by omega)) (fun _ => ?_)
    rw [tb_nI (by omega) (by omega), hbit]
    refine brn_t rfl ?_
    rw [tb_nI (by omega) (by omega)]
    cases hb : v.testBit k
    · refine brn_t rfl ?_
      have hv1 : setb v k true < 1024 := setb_10 _ (by omega) hk
      have r0 := rd_made h (j := v) (by omega)
      have r1 := rd_made h hv1
      have e0 : setb v k false = v := setb_self hb
      have g0 : qmk ev f k v v = f v := by
        unfold qmk
        rw [e0, if_neg (by omega)]
      have g1 : qmk ev f k v (setb v k true) = f (setb v k true) := by
        unfold qmk
        rw [setb_setb, e0, if_neg (by omega)]
      rw [g0] at r0
      rw [g1] at r1
      refine ⟨_, h.fv rfl, _, r0, _, h.fv rfl, _, by rw [nI_set1 (by omega)]; exact r1, _, h.fv rfl, ?_⟩
      have go : ∀ c : Bool, c = q1 ev f k v → p_M_quantifyMade_J102 (p_M_quantifyMade_L11 (ad 0) (nI set) (bI ev) (nI k) E (d + 1)) E (ad 0) (nI set) (bI ev) (nI k) (nI v) (ad 2) (nI v) (bI c) u := by
        intro c hc
        subst hc
        unfold p_M_quantifyMade_J102 p_M_quantifyMade_J121
        refine st_madeJ h (by omega) (fun u1 h1 => ?_)
        have r2 := rd_made h1 (j := v) (by omega)
        rw [if_pos rfl] at r2
        refine ⟨_, h1.fv rfl, _, h1.fv rfl, _, r2, ?_⟩
        rw [nI_set1 (by omega)]
        refine st_madeJ h1 hv1 (fun u2 h2 => nm_e ?_)
        rw [nI_1]
        refine ih (v + 1) u2 (by omega) ?_
        rw [qmk_lo hb] at h2
        exact h2
      have e1 : q1 ev f k v = if ev then f v && f (setb v k true) else f v || f (setb v k true) := by
        unfold q1
        rw [e0]
      unfold p_M_quantifyMade_J97 p_M_quantifyMade_J83
      cases ev
      · refine br_t rfl ?_
        cases h0 : f v
        · refine brn_t rfl ?_
          cases h1 : f (setb v k true)
          · exact br_t rfl (go false (by rw [e1, h0, h1]; rfl))
          · exact br_f (by decide) (go true (by rw [e1, h0, h1]; rfl))
        · exact brn_f (by decide) (go true (by rw [e1, h0]; rfl))
      · refine br_f (by decide) ?_
        cases h0 : f v
        · exact br_t rfl (go false (by rw [e1, h0]; rfl))
        · refine br_f (by decide) ?_
          cases h1 : f (setb v k true)
          · exact br_t rfl (go false (by rw [e1, h0, h1]; rfl))
          · exact br_f (by decide) (go true (by rw [e1, h0, h1]; rfl))
    · refine brn_f (by decide) ?_
      unfold p_M_quantifyMade_J121
      refine nm_e ?_
      rw [nI_1]
      refine ih (v + 1) u (by omega) ?_
      rw [qmk_hi hb]
      exact h
theorem q_M_quantifyMade (h : VM ad S (va_up I 2 (mkm (I 2) f 1024)) b u) {set : Nat} {ev : Bool} (hs : set < 1024) {K : PS → Prop} (hK : ∀ u' : PS, VM ad S (va_up I 2 (mkm (I 2) (qs ev set f 10) 1024)) b u' → K u') : p_M_quantifyMade (ad 0) (nI set) (bI ev) u K := by
  have go : ∀ (d k : Nat) (u : PS), k + d = 10 → VM ad S (va_up I 2 (mkm (I 2) (qs ev set f k) 1024)) b u → p_M_quantifyMade_L2 (ad 0) (nI set) (bI ev) K (d + 1) (nI k) u := by
    intro d
    induction d with
    | zero =>
      intro k u hk h
      obtain rfl : k = 10 := by omega
      rw [p_M_quantifyMade_L2]
      exact pk_le 10 10 (fun _ => hK u h) (fun h9 => absurd h9 (by omega))
    | succ d ih =>
      intro k u hk h
      rw [p_M_quantifyMade_L2]
      refine pk_le 10 k (fun h9 => absurd h9 (by omega)) (fun _ => ?_)
      unfold p_M_quantifyMade_J127
      cases hb : set.testBit k
      · refine ⟨1, ?_⟩
        rw [p_M_quantifyMade_L11]
        refine br_f (nI_ge (show 0 < 1024 by omega) (by decide)) ?_
        rw [tb_nI (by omega) (by omega), hb]
        refine brn_f (by decide) (nm_e ?_)
        rw [nI_1]
        refine ih (k + 1) u (by omega) ?_
        rw [qs, hb]
        exact h
      · refine ⟨1025, q_M_qm_L (ad := ad) (S := S) (I := I) (b := b) (f := qs ev set f k) hs (by omega) hb (fun u' h' => nm_e ?_) 1024 0 u rfl ?_⟩
        · rw [nI_1]
          refine ih (k + 1) u' (by omega) ?_
          rw [qs, hb]
          exact h'
        · rw [qmk_0]
          exact h
  exact ⟨11, go 10 0 u rfl h⟩
def sp_quantify (x y z : Int32) (ev : Bool) (F : Nat → Nat → Bool) : Int32 × (Nat → Nat → Bool) := if okP x && okP y then if okW z then (0, upF F x.toNatClampNeg (qs ev z.toNatClampNeg (F y.toNatClampNeg) 10)) else (2, F) else (1, F)
theorem q_M_quantify (h : RM ad b F o t n u) {x y z : Int32} {ev : Bool} {K : PS → Prop} (hK : ∀ u' : PS, RM ad b (sp_quantify x y z ev F).2 o (sp_quantify x y z ev F).1 n u' → K u') : p_M_quantify (ad 0) x y z (bI ev) u K := by
  obtain ⟨S, I, h, hF, hq, ht⟩ := h.un
  have j : ∀ c d : Bool, c = (!(okP x && okP y)) → d = (okP x && okP y && !okW z) → p_M_quantify_J53 K (ad 0) x y z (bI ev) (ad 0) (bI c) (bI d) u := by
    intro c d hc hd
    refine ⟨h.ob, q_M_ref (s := fun _ => True) h hF hq (fun u' hcd h' => hK u' ?_) (fun u' S' hc' hd' h' hq' h0 => ?_)⟩
    · have e : sp_quantify x y z ev F = ((if c then 1 else 2), F) := by
        unfold sp_quantify
        subst hc hd
        cases hx : (okP x && okP y) <;> cases hy : okW z <;> simp_all
      rw [e]; exact h'
    · subst hc hd
      have hx := ts_b hc'
      have hy : okW z = true := by rw [hx] at hd'; exact ts_b hd'
      have hx3 := hx
      simp only [Bool.and_eq_true] at hx3
      obtain ⟨p, hp, rfl⟩ := okP_nI hx3.1
      obtain ⟨q, hq2, rfl⟩ := okP_nI hx3.2
      obtain ⟨w, hw, rfl⟩ := okW_nI hy
      have e : sp_quantify (nI p) (nI q) (nI w) ev F = (0, upF F p (qs ev w (F q) 10)) := by
        unfold sp_quantify
        rw [if_pos hx, if_pos hy, nI_clamp (by omega), nI_clamp (by omega), nI_clamp (by omega)]
      refine ⟨1025, q_M_quantify_L hq2 hF (fun u2 h2 => ⟨h2.ob, q_M_quantifyMade h2 hw (fun u3 h3 => ⟨h3.ob, q_M_taken h3 hF hq' hp (fun u4 h4 => hK u4 ?_)⟩)⟩) 1024 0 u' rfl (st_made0 h' _)⟩
      rw [e]
      rw [h0] at h4
      exact h4
  unfold p_M_quantify p_M_quantify_J18 p_M_quantify_J19 p_M_quantify_J32 p_M_quantify_J52
  simp only [e_isPlace, e_in, e_okW]
  cases hx : okP x
  · exact br_t rfl (brn_t (by decide) (br_t (by decide) (j true false (by rw [hx]; rfl) (by rw [hx]; rfl))))
  · refine br_f (by decide) ?_
    cases hy : okP y
    · exact br_t rfl (brn_t (by decide) (br_t (by decide) (j true false (by rw [hx, hy]; rfl) (by rw [hx, hy]; rfl))))
    · refine br_f (by decide) (brn_f (by decide) (br_f (by decide) ?_))
      cases hk : okW z
      · exact brn_t rfl (j false true (by rw [hx, hy]; rfl) (by rw [hx, hy, hk]; rfl))
      · exact brn_f (by decide) (j false false (by rw [hx, hy]; rfl) (by rw [hx, hy, hk]; rfl))
def sp_meet (x y z w : Int32) (F : Nat → Nat → Bool) : Int32 × (Nat → Nat → Bool) := if okP x && okP y && okP z then if okW w then (0, upF F x.toNatClampNeg (qs false w.toNatClampNeg (fun v => F y.toNatClampNeg v && F z.toNatClampNeg v) 10)) else (2, F) else (1, F)
theorem q_M_meet (h : RM ad b F o t n u) {x y z w : Int32} {K : PS → Prop} (hK : ∀ u' : PS, RM ad b (sp_meet x y z w F).2 o (sp_meet x y z w F).1 n u' → K u') : p_M_meet (ad 0) x y z w u K := by
  obtain ⟨S, I, h, hF, hq, ht⟩ := h.un
  have j : ∀ c d : Bool, c = (!(okP x && okP y && okP z)) → d = (okP x && okP y && okP z && !okW w) → p_M_meet_J61 K (ad 0) x y z w (ad 0) (bI c) (bI d) u := by
    intro c d hc hd
    refine ⟨h.ob, q_M_ref (s := fun _ => True) h hF hq (fun u' hcd h' => hK u' ?_) (fun u' S' hc' hd' h' hq' h0 => ?_)⟩
    · have e : sp_meet x y z w F = ((if c then 1 else 2), F) := by
        unfold sp_meet
        subst hc hd
        cases hx : (okP x && okP y && okP z) <;> cases hy : okW w <;> simp_all
      rw [e]; exact h'
    · subst hc hd
      have hx := ts_b hc'
      have hy : okW w = true := by rw [hx] at hd'; exact ts_b hd'
      have hx3 := hx
      simp only [Bool.and_eq_true] at hx3
      obtain ⟨p, hp, rfl⟩ := okP_nI hx3.1.1
      obtain ⟨q, hq2, rfl⟩ := okP_nI hx3.1.2
      obtain ⟨r, hr, rfl⟩ := okP_nI hx3.2
      obtain ⟨s, hs, rfl⟩ := okW_nI hy
      have e : sp_meet (nI p) (nI q) (nI r) (nI s) F = (0, upF F p (qs false s (fun v => F q v && F r v) 10)) := by
        unfold sp_meet
        rw [if_pos hx, if_pos hy, nI_clamp (by omega), nI_clamp (by omega), nI_clamp (by omega), nI_clamp (by omega)]
      refine ⟨1025, q_M_meet_L hq2 hr hF (fun u2 h2 => ⟨h2.ob, q_M_quantifyMade (ev := false) h2 hs (fun u3 h3 => ⟨h3.ob, q_M_taken h3 hF hq' hp (fun u4 h4 => hK u4 ?_)⟩)⟩) 1024 0 u' rfl (st_made0 h' _)⟩
      rw [e]
      rw [h0] at h4
      exact h4
  unfold p_M_meet p_M_meet_J25 p_M_meet_J26 p_M_meet_J39 p_M_meet_J60
  simp only [e_isPlace, e_in, e_okW]
  cases hx : okP x
  · exact br_t rfl (brn_t (by decide) (br_t (by decide) (j true false (by rw [hx]; rfl) (by rw [hx]; rfl))))
  · refine br_f (by decide) ?_
    cases hy : okP y
    · exact br_t rfl (brn_t (by decide) (br_t (by decide) (j true false (by rw [hx, hy]; rfl) (by rw [hx, hy]; rfl))))
    · refine br_f (by decide) ?_
      cases hz : okP z
      · exact br_t rfl (brn_t (by decide) (br_t (by decide) (j true false (by rw [hx, hy, hz]; rfl) (by rw [hx, hy, hz]; rfl))))
      · refine br_f (by decide) (brn_f (by decide) (br_f (by decide) ?_))
        cases hk : okW w
        · exact brn_t rfl (j false true (by rw [hx, hy, hz]; rfl) (by rw [hx, hy, hz, hk]; rfl))
        · exact brn_f (by decide) (j false false (by rw [hx, hy, hz]; rfl) (by rw [hx, hy, hz, hk]; rfl))
end REF4
