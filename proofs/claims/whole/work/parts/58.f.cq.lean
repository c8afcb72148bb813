/-! the reference: countQuestions, whole -/
def PR (first many : Nat) : Nat → Prop := fun p => ∃ q : Nat, q < many ∧ p = first + q
/-- the reference's state with the questions counted -/
def RK (ad : Nat → Nat) (b : PS) (F : Nat → Nat → Bool) (o : Nat → Nat) (t : Int32) (n : Nat) (k10 k11 : Nat → Int32) (u : PS) : Prop :=
  ∃ (S : Nat → Int32) (I : Nat → Nat → Int32), VM ad S I b u ∧ MF F I ∧ RQ o n S I ∧ S 0 = t ∧ I 10 = k10 ∧ I 11 = k11
theorem RM.rk {ad : Nat → Nat} {b : PS} {F : Nat → Nat → Bool} {o : Nat → Nat} {t : Int32} {n : Nat} {u : PS} (h : RM ad b F o t n u) : ∃ k10 k11 : Nat → Int32, RK ad b F o t n k10 k11 u := by
  obtain ⟨S, I, h1, h2, h3, h4⟩ := h.un
  exact ⟨_, _, S, I, h1, h2, h3, h4, rfl, rfl⟩
theorem RK.rm {ad : Nat → Nat} {b : PS} {F : Nat → Nat → Bool} {o : Nat → Nat} {t : Int32} {n : Nat} {k10 k11 : Nat → Int32} {u : PS} (h : RK ad b F o t n k10 k11 u) : RM ad b F o t n u := by
  obtain ⟨S, I, h1, h2, h3, h4, -⟩ := h
  exact RM.of h1 h2 h3 h4
theorem RK.ob {ad : Nat → Nat} {b : PS} {F : Nat → Nat → Bool} {o : Nat → Nat} {t : Int32} {n : Nat} {k10 k11 : Nat → Int32} {u : PS} (h : RK ad b F o t n k10 k11 u) : x_ob u (ad 0) 6 := by
  obtain ⟨S, I, h1, -⟩ := h
  exact h1.ob
theorem RK.mono {ad : Nat → Nat} {b : PS} {F : Nat → Nat → Bool} {o : Nat → Nat} {t : Int32} {n m : Nat} {k10 k11 : Nat → Int32} {u : PS} (h : RK ad b F o t n k10 k11 u) (hm : n ≤ m) : RK ad b F o t m k10 k11 u := by
  obtain ⟨S, I, h1, h2, ⟨h3, s, h5, h6⟩, h4, h7⟩ := h
  exact ⟨S, I, h1, h2, ⟨h3, s, by omega, h6⟩, h4, h7⟩
def RMQ (ad : Nat → Nat) (b : PS) (P : Nat → Prop) (F : Nat → Nat → Bool) (o : Nat → Nat) (t : Int32) (n : Nat) (k10 k11 : Nat → Int32) (u : PS) : Prop :=
  ∃ (S : Nat → Int32) (I : Nat → Nat → Int32), VM ad S I b u ∧ MF F I ∧ RQ o n S I ∧ S 0 = t ∧ (∀ i : Nat, i < 10 → I 9 (o i) = nI (qn P F o i)) ∧ I 10 = k10 ∧ I 11 = k11
theorem RMQ.rk {ad : Nat → Nat} {b : PS} {P : Nat → Prop} {F : Nat → Nat → Bool} {o : Nat → Nat} {t : Int32} {n : Nat} {k10 k11 : Nat → Int32} {u : PS} (h : RMQ ad b P F o t n k10 k11 u) : RK ad b F o t n k10 k11 u := by
  obtain ⟨S, I, h1, h2, h3, h4, -, h5⟩ := h
  exact ⟨S, I, h1, h2, h3, h4, h5⟩
theorem RMQ.rm {ad : Nat → Nat} {b : PS} {P : Nat → Prop} {F : Nat → Nat → Bool} {o : Nat → Nat} {t : Int32} {n : Nat} {k10 k11 : Nat → Int32} {u : PS} (h : RMQ ad b P F o t n k10 k11 u) : RM ad b F o t n u := h.rk.rm
def LvJ (ad : Nat → Nat) (b : PS) (F : Nat → Nat → Bool) (o : Nat → Nat) (t : Int32) (s first many j : Nat) (k10 k11 : Nat → Int32) (u : PS) : Prop :=
  ∃ (S : Nat → Int32) (I : Nat → Nat → Int32) (m : Nat), VM ad S I b u ∧ MF F I ∧ (∀ i : Nat, i < 10 → I 3 i = nI (o i)) ∧ S 0 = t ∧ S 1 = nI m ∧ S 2 = nI (s + (10 - j)) ∧ (∀ i : Nat, i < 65536 → ∃ r : Nat, r ≤ s + (10 - j) ∧ I 8 i = nI r) ∧ LV F o first many j m (I 4) ∧ m + many * 2 ^ j ≤ many * 1024 ∧ (∀ i : Nat, j ≤ i → i < 10 → I 9 (o i) = nI (qn (PR first many) F o i)) ∧ m + sumTo (qn (PR first many) F o) j = wh (PR first many) F o ∧ I 10 = k10 ∧ I 11 = k11
section CQ2
variable {ad : Nat → Nat} {S : Nat → Int32} {I : Nat → Nat → Int32} {b u : PS} {F : Nat → Nat → Bool} {o : Nat → Nat} {t : Int32} {n : Nat} {k10 k11 : Nat → Int32}
theorem q_M_cq_L87 (ho : PO o) {s first many : Nat} (hm : first + many ≤ 24) (hs : s + 10 < 2 ^ 31) {E : PS → Prop} (hE : ∀ u' : PS, LvJ ad b F o t s first many 0 k10 k11 u' → E u') : ∀ (j : Nat) (u : PS), j ≤ 10 → LvJ ad b F o t s first many j k10 k11 u → p_M_countQuestions_L87 (ad 0) (nI many) E (j + 1) (nI j + (-1)) u := by
  intro j
  induction j with
  | zero =>
    intro u _ h
    rw [p_M_countQuestions_L87]
    exact br_t (by decide) (hE u h)
  | succ j ih =>
    intro u hj hl
    obtain ⟨S, I, m, h, hF, h3, h0, h1, h2, hst, hL, hb, hq, hsum, h10, h11⟩ := hl
    rw [p_M_countQuestions_L87, pk_m1]
    refine br_f (nI_pos (by omega)) ⟨S 1, h.fv rfl, nm_e ⟨S 2, h.fv rfl, ?_⟩⟩
    rw [nI_pw (by omega), h1, h2, nI_1]
    obtain ⟨u1, s1, g1⟩ := h.pv 10 2 (nI (s + (10 - (j + 1)) + 1)) (by decide) rfl
    refine ⟨u1, s1, many + 1, ?_⟩
    have e2 : 2 ^ (j + 1) = 2 * 2 ^ j := by rw [Nat.pow_succ]; omega
    have hsz : 2 ^ j ≤ 512 := Nat.pow_le_pow_right (n := 2) (j := 9) (by omega) (by omega)
    rw [e2] at hb
    have hmul : many * (2 * 2 ^ j) = 2 * (many * 2 ^ j) := by rw [← Nat.mul_assoc, Nat.mul_comm many 2, Nat.mul_assoc]
    rw [hmul] at hb
    have hm24 : many * 1024 ≤ 24576 := by omega
    have es : s + (10 - (j + 1)) + 1 = s + (10 - j) := by omega
    have hN := NT_start (m := m) (lo := I 5) (hi := I 6) (sl := I 7) (st := I 8) (s := s + (10 - (j + 1))) (by omega) (by omega) hst
    refine q_M_cq_L117 (s := s + (10 - j)) (fr := m) (M0 := m) (sz := 2 ^ j) (L0 := I 4) (I0 := I) (t := t) (by omega) hsz (by omega) (fun u2 hl2 => ?_) many 0 u1 (by omega) ⟨_, I, m, g1, by rw [es] at hN; exact hN, ?_, ?_, ?_, fun _ _ => rfl, fun _ _ => rfl, IL_0, by omega⟩
    · obtain ⟨S2, I2, m2, k, kN, k0, k1, k2, k3, k4, k5, k6⟩ := hl2
      obtain ⟨hL2, hC⟩ := LV_step ho (by omega) kN.2.1 kN.1 hL k5 kN.2.2.2.2.2.2.2
      have eq : qn (PR first many) F o j = m2 - m := cn_eq hC
      have hfr := kN.1
      have ho1 := ho.1 j (by omega)
      unfold p_M_countQuestions_J197
      refine ⟨_, k.fv rfl, _, k.fv rfl, _, k.ia 3 (by decide) (by decide) rfl (vp_in_nI (by show j < 10; omega) (by decide)), S2 1, k.fv rfl, ?_⟩
      rw [nI_clamp (by omega), k3 3 (by omega), h3 j (by omega), k1, pk_sub hfr]
      obtain ⟨u3, s3, g3⟩ := k.is 9 (by decide) (by decide) rfl (j := nI (o j)) (vp_in_nI (by show o j < 10; omega) (by decide)) (nI (m2 - m))
      rw [nI_clamp (by omega)] at g3
      refine ⟨u3, s3, nm_e ?_⟩
      refine ih u3 (by omega) ⟨S2, _, m2, g3, ?_, ?_, k0, k1, k2, ?_, ?_, ?_, ?_, ?_, ?_, ?_⟩
      · refine MF.made (i := 9) ?_ (by decide) _
        intro p hp v hv
        rw [k3 1 (by omega)]
        exact hF p hp v hv
      · intro i hi
        rw [up_ne _ _ (by decide), k3 3 (by omega)]
        exact h3 i hi
      · intro i hi
        rw [up_ne _ _ (by decide)]
        exact kN.2.2.2.1 i hi
      · rw [up_ne _ _ (by decide)]
        exact hL2
      · omega
      · intro i hi1 hi2
        rw [up_eq]
        by_cases e : i = j
        · subst e
          rw [pk_us, eq]
        · rw [pk_un (fun z => e (ho.2 i j hi2 (by omega) z)), k4 9 (by omega)]
          exact hq i (by omega) hi2
      · rw [sumTo, eq] at hsum
        omega
      · rw [up_ne _ _ (by decide), k4 10 (by omega)]; exact h10
      · rw [up_ne _ _ (by decide), k4 11 (by omega)]; exact h11
    · exact h0
    · exact h1
    · rw [es]; rfl
theorem q_M_countQuestions (h : RK ad b F o t n k10 k11 u) (ho : PO o) {first many : Nat} (hm : first + many ≤ 24) (h1 : 1 ≤ many) (hn : n + 10 < 2 ^ 31) {K : Int32 → PS → Prop} (hK : ∀ u' : PS, RMQ ad b (PR first many) F o t (n + 10) k10 k11 u' → wh (PR first many) F o ≤ 24576 → K (nI (wh (PR first many) F o)) u') : p_M_countQuestions (ad 0) (nI first) (nI (first + many - 1)) u K := by
  obtain ⟨S, I, h, hF, ⟨h3, s, hs, hS, hst⟩, ht, h10, h11⟩ := h
  unfold p_M_countQuestions
  refine nm_e ?_
  rw [pk_sub (by omega), nI_1, show first + many - 1 - first + 1 = many by omega]
  refine ⟨1025, q_M_cq_L9 (o := o) hm hF h3 ho (fun u' L h' hL => ?_) 1024 0 u (I 4) rfl (by rw [up_id]; exact h) (fun p' w' _ _ z => by omega)⟩
  unfold p_M_countQuestions_J78
  obtain ⟨u1, s1, g1⟩ := h'.pv 5 1 0 (by decide) rfl
  refine ⟨u1, s1, 11, ?_⟩
  have go := q_M_cq_L87 (ad := ad) (b := b) (F := F) (t := t) (k10 := k10) (k11 := k11) (E := fun u_40 => p_M_countQuestions_J222 K (ad 0) u_40) ho (s := s) hm (by omega) (fun u2 hl => ?_) 10 u1 (by omega) ?_
  · rw [show nI 10 + (-1) = (9 : Int32) from by decide] at go
    exact go
  · obtain ⟨S2, I2, m, k, kF, k3, k0, k1, k2, kst, kL, kb, kq, ksum, kt⟩ := hl
    unfold p_M_countQuestions_J222
    refine ⟨S2 1, k.fv rfl, ?_⟩
    rw [sumTo, Nat.add_zero] at ksum
    rw [k1, ksum]
    have : many * 1024 ≤ 24576 := by omega
    refine hK u2 ⟨S2, I2, k, kF, ⟨k3, s + (10 - 0), by omega, k2, kst⟩, k0, fun i hi => kq i (by omega) hi, kt⟩ (by omega)
  · refine ⟨_, _, 0, g1, hF.made (by decide) L, fun i hi => by rw [up_ne _ _ (by decide)]; exact h3 i hi, ?_, rfl, ?_, ?_, ?_, by omega, fun i a c => by omega, ?_, ?_, ?_⟩
    · exact ht
    · exact hS
    · intro i hi
      rw [up_ne _ _ (by decide)]
      exact hst i hi
    · rw [up_eq]
      exact LV_10 ho (fun p w hp hw => hL p w hp hw (Or.inl hw))
    · rw [Nat.zero_add]; rfl
    · rw [up_ne _ _ (by decide)]; exact h10
    · rw [up_ne _ _ (by decide)]; exact h11
theorem q_M_whole (h : RK ad b F o t n k10 k11 u) (ho : PO o) (hn : n + 10 < 2 ^ 31) {K : Int32 → PS → Prop} (hK : ∀ u' : PS, RMQ ad b (PR 0 24) F o t (n + 10) k10 k11 u' → wh (PR 0 24) F o ≤ 24576 → K (nI (wh (PR 0 24) F o)) u') : p_M_whole (ad 0) u K := by
  exact ⟨h.ob, q_M_countQuestions (first := 0) (many := 24) h ho (by omega) (by omega) hn hK⟩
def sp_size (x : Int32) (P : (Nat → Prop) → Nat) : Int32 × Int32 := if x = -1 then (0, nI (P (PR 0 24))) else if okP x then (0, nI (P (PR x.toNatClampNeg 1))) else (1, 0)
theorem q_M_size (h : RM ad b F o t n u) (ho : PO o) (hn : n + 10 < 2 ^ 31) {x : Int32} {K : Int32 → PS → Prop} (hK : ∀ u' : PS, RM ad b F o (sp_size x (fun P => wh P F o)).1 (n + 10) u' → K (sp_size x (fun P => wh P F o)).2 u') : p_M_size (ad 0) x u K := by
  obtain ⟨S, I, h, hF, hq, ht⟩ := h.un
  have j : ∀ c : Bool, c = (!(decide (x = -1) || okP x)) → p_M_size_J18 K (ad 0) x (ad 0) (bI c) u := by
    intro c hc
    refine ⟨h.ob, q_M_rf2 (d := false) h hF hq (fun u' hcd h' => ?_) (fun u' S' hc' hd' h' hq' h0 hR => ?_)⟩
    · have hx : (decide (x = -1) || okP x) = false := by subst hc; cases hx : (decide (x = -1) || okP x); rfl; rw [hx] at hcd; exact absurd hcd (by decide)
      rw [Bool.or_eq_false_iff] at hx
      have e : sp_size x (fun P => wh P F o) = (1, 0) := by
        unfold sp_size
        rw [if_neg (of_decide_eq_false hx.1), hx.2]; rfl
      have := hK u'
      rw [e] at this
      rw [hc, hx.1, hx.2] at h'
      exact this (h'.mono (by omega))
    · subst hc
      have hx := ts_b hc'
      by_cases e1 : x = -1
      · refine brn_t e1 ⟨h'.ob, ?_⟩
        obtain ⟨k10, k11, hR⟩ := hR.rk
        refine q_M_whole hR ho hn (fun u2 h2 hw => ?_)
        have e : sp_size x (fun P => wh P F o) = (0, nI (wh (PR 0 24) F o)) := by
          unfold sp_size
          rw [if_pos e1]
        have := hK u2
        rw [e] at this
        exact this h2.rm
      · rw [decide_eq_false e1, Bool.false_or] at hx
        refine brn_f e1 ⟨h'.ob, ?_⟩
        obtain ⟨p, hp, rfl⟩ := okP_nI hx
        have e : sp_size (nI p) (fun P => wh P F o) = (0, nI (wh (PR p 1) F o)) := by
          unfold sp_size
          rw [if_neg e1, if_pos hx, nI_clamp (by omega)]
        obtain ⟨k10, k11, hR⟩ := hR.rk
        refine q_M_countQuestions (first := p) (many := 1) hR ho (by omega) (by omega) hn (fun u2 h2 hw => ?_)
        have := hK u2
        rw [e] at this
        exact this h2.rm
  unfold p_M_size p_M_size_J17
  rw [e_isPlace]
  by_cases e1 : x = -1
  · exact br_t e1 (j false (by rw [decide_eq_true e1]; rfl))
  · refine br_f e1 ?_
    cases hx : okP x
    · exact brn_t rfl (j true (by rw [decide_eq_false e1, hx]; rfl))
    · exact brn_f (by decide) (j false (by rw [decide_eq_false e1, hx]; rfl))
end CQ2
