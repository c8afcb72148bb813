/-! the reference: constant, input, make, choose, fix, compose -/
def RM (ad : Nat → Nat) (b : PS) (F : Nat → Nat → Bool) (o : Nat → Nat) (t : Int32) (n : Nat) (u : PS) : Prop :=
  ∃ (S : Nat → Int32) (I : Nat → Nat → Int32), VM ad S I b u ∧ MF F I ∧ (∀ i : Nat, i < 10 → I 3 i = nI (o i)) ∧ S 0 = t ∧ ∃ s : Nat, s ≤ n ∧ S 2 = nI s ∧ ∀ j : Nat, j < 65536 → ∃ r : Nat, r ≤ s ∧ I 8 j = nI r
/-- what stays of the reference besides tables and made -/
def RQ (o : Nat → Nat) (n : Nat) (S : Nat → Int32) (I : Nat → Nat → Int32) : Prop :=
  (∀ i : Nat, i < 10 → I 3 i = nI (o i)) ∧ ∃ s : Nat, s ≤ n ∧ S 2 = nI s ∧ ∀ j : Nat, j < 65536 → ∃ r : Nat, r ≤ s ∧ I 8 j = nI r
theorem RQ.up {o : Nat → Nat} {n : Nat} {S : Nat → Int32} {I : Nat → Nat → Int32} (h : RQ o n S I) {i : Nat} (f : Nat → Int32) (h3 : 3 ≠ i) (h8 : 8 ≠ i) : RQ o n S (va_up I i f) := by
  obtain ⟨h1, s, h2, h4, h5⟩ := h
  refine ⟨fun j hj => ?_, s, h2, h4, fun j hj => ?_⟩
  · rw [up_ne I f h3]; exact h1 j hj
  · rw [up_ne I f h8]; exact h5 j hj
theorem RQ.ups {o : Nat → Nat} {n : Nat} {S : Nat → Int32} {I : Nat → Nat → Int32} (h : RQ o n S I) {i : Nat} (x : Int32) (h2 : 2 ≠ i) : RQ o n (va_up S i x) I := by
  obtain ⟨h1, s, h3, h4, h5⟩ := h
  exact ⟨h1, s, h3, by rw [up_ne S x h2]; exact h4, h5⟩
theorem RM.of {ad : Nat → Nat} {b : PS} {F : Nat → Nat → Bool} {o : Nat → Nat} {t : Int32} {n : Nat} {u : PS} {S : Nat → Int32} {I : Nat → Nat → Int32} (h : VM ad S I b u) (hF : MF F I) (hq : RQ o n S I) (ht : S 0 = t) : RM ad b F o t n u := ⟨S, I, h, hF, hq.1, ht, hq.2⟩
theorem RM.un {ad : Nat → Nat} {b : PS} {F : Nat → Nat → Bool} {o : Nat → Nat} {t : Int32} {n : Nat} {u : PS} (h : RM ad b F o t n u) : ∃ (S : Nat → Int32) (I : Nat → Nat → Int32), VM ad S I b u ∧ MF F I ∧ RQ o n S I ∧ S 0 = t := by
  obtain ⟨S, I, h1, h2, h3, h4, h5⟩ := h
  exact ⟨S, I, h1, h2, ⟨h3, h5⟩, h4⟩
theorem RM.mono {ad : Nat → Nat} {b : PS} {F : Nat → Nat → Bool} {o : Nat → Nat} {t : Int32} {n m : Nat} {u : PS} (h : RM ad b F o t n u) (hm : n ≤ m) : RM ad b F o t m u := by
  obtain ⟨S, I, h1, h2, h3, h4, s, h5, h6⟩ := h
  exact ⟨S, I, h1, h2, h3, h4, s, Nat.le_trans h5 hm, h6⟩
theorem up_id {α : Type} (f : Nat → α) (k : Nat) : va_up f k (f k) = f := by
  funext j
  by_cases hj : j = k
  · subst hj; exact up_eq _ _ _
  · exact up_ne _ _ hj
theorem tab_uu (I : Nat → Nat → Int32) (m : Nat → Int32) (p v : Nat) : va_up I 1 (tk (I 1) m p v) 1 = tk (I 1) m p v := up_eq _ _ _
theorem MF.all {F : Nat → Nat → Bool} {I : Nat → Nat → Int32} (h : MF F I) {m : Nat → Int32} {g : Nat → Bool} (hm : ∀ v : Nat, v < 1024 → m v = bI (g v)) (p : Nat) : MF (upF F p g) (va_up I 1 (tk (I 1) m p 1024)) := h.take hm p
theorem okP_nI {x : Int32} (h : okP x = true) : ∃ p : Nat, p < 24 ∧ x = nI p := by
  have h2 := of_decide_eq_true h
  obtain ⟨j, hj, e⟩ := nI_of2 (M := 23) (n := 23) (by decide) (Int32.not_lt.mpr h2.1) h2.2
  exact ⟨j, by omega, e⟩
theorem okI_nI {x : Int32} (h : okI x = true) : ∃ p : Nat, p < 10 ∧ x = nI p := by
  have h2 := of_decide_eq_true h
  obtain ⟨j, hj, e⟩ := nI_of2 (M := 9) (n := 9) (by decide) (Int32.not_lt.mpr h2.1) h2.2
  exact ⟨j, by omega, e⟩
def okB (x : Int32) : Bool := decide ((0 : Int32) ≤ x ∧ x ≤ 1)
def okK (x : Int32) : Bool := decide ((0 : Int32) ≤ x ∧ x ≤ 5)
def okW (x : Int32) : Bool := decide ((0 : Int32) ≤ x ∧ x ≤ 1023)
theorem okB_nI {x : Int32} (h : okB x = true) : ∃ c : Bool, x = bI c := by
  have h2 := of_decide_eq_true h
  obtain ⟨j, hj, e⟩ := nI_of2 (M := 1) (n := 1) (by decide) (Int32.not_lt.mpr h2.1) h2.2
  rcases (by omega : j = 0 ∨ j = 1) with rfl | rfl
  · exact ⟨false, e⟩
  · exact ⟨true, e⟩
theorem okK_nI {x : Int32} (h : okK x = true) : ∃ p : Nat, p < 6 ∧ x = nI p := by
  have h2 := of_decide_eq_true h
  obtain ⟨j, hj, e⟩ := nI_of2 (M := 5) (n := 5) (by decide) (Int32.not_lt.mpr h2.1) h2.2
  exact ⟨j, by omega, e⟩
theorem okW_nI {x : Int32} (h : okW x = true) : ∃ p : Nat, p < 1024 ∧ x = nI p := by
  have h2 := of_decide_eq_true h
  obtain ⟨j, hj, e⟩ := nI_of2 (M := 1023) (n := 1023) (by decide) (Int32.not_lt.mpr h2.1) h2.2
  exact ⟨j, by omega, e⟩
theorem bI_1 (c : Bool) : bI c = 1 ↔ c = true := by cases c <;> decide
theorem bI_inj {c d : Bool} : bI c = bI d ↔ c = d := by cases c <;> cases d <;> decide
section REF2
variable {ad : Nat → Nat} {S : Nat → Int32} {I : Nat → Nat → Int32} {b u : PS} {F : Nat → Nat → Bool} {g : Nat → Bool} {o : Nat → Nat} {t : Int32} {n : Nat}
theorem st_tab {m : Nat → Int32} {p v : Nat} (h : VM ad S (va_up I 1 (tk (I 1) m p v)) b u) (hp : p < 24) (hv : v < 1024) (hm : m v = 0 ∨ m v = 1) {R : PS → Prop} (hR : ∀ u' : PS, VM ad S (va_up I 1 (tk (I 1) m p (v + 1))) b u' → R u') : ∃ u' : PS, x_zs u (ad 1) ((1024 : Int32) * nI p + nI v) (m v) u' ∧ R u' := by
  obtain ⟨u1, s1, h1⟩ := h.zs 1 (by decide) (by decide) rfl (j := nI (1024 * p + v)) (vp_in_nI (by show _ < 24576; omega) (by decide)) hm
  rw [bx_uu, nI_clamp (by omega), up_eq, tk_step] at h1
  exact ⟨u1, by rw [ix_tab]; exact s1, hR u1 h1⟩
theorem st_made {v : Nat} (h : VM ad S (va_up I 2 (mkm (I 2) g v)) b u) (hv : v < 1024) {x : Int32} (hx : x = bI (g v)) {R : PS → Prop} (hR : ∀ u' : PS, VM ad S (va_up I 2 (mkm (I 2) g (v + 1))) b u' → R u') : ∃ u' : PS, x_zs u (ad 2) (nI v) x u' ∧ R u' := by
  subst hx
  obtain ⟨u1, s1, h1⟩ := h.zs 2 (by decide) (by decide) rfl (j := nI v) (vp_in_nI (by show _ < 1024; omega) (by decide)) (bI_z2 (g v))
  rw [bx_uu, nI_clamp (by omega), up_eq, mkm_step (I 2) g v] at h1
  exact ⟨u1, s1, hR u1 h1⟩
theorem st_tab0 (h : VM ad S I b u) (m : Nat → Int32) (p : Nat) : VM ad S (va_up I 1 (tk (I 1) m p 0)) b u := by
  rw [tk_0, up_id]; exact h
theorem st_made0 (h : VM ad S I b u) (g : Nat → Bool) : VM ad S (va_up I 2 (mkm (I 2) g 0)) b u := by
  rw [mkm_0, up_id]; exact h
/-- behind the filling of made: take -/
theorem q_M_taken (h : VM ad S (va_up I 2 (mkm (I 2) g 1024)) b u) (hF : MF F I) (hq : RQ o n S I) {p : Nat} (hp : p < 24) {K : PS → Prop} (hK : ∀ u' : PS, RM ad b (upF F p g) o (S 0) n u' → K u') : p_M_take (ad 0) (nI p) u K := by
  have hm : ∀ v : Nat, v < 1024 → va_up I 2 (mkm (I 2) g 1024) 2 v = bI (g v) := fun v hv => by
    rw [up_eq]; exact if_pos hv
  refine q_M_take h hp hm (fun u' h' => hK u' (RM.of h' ?_ ((hq.up _ (by decide) (by decide)).up _ (by decide) (by decide)) rfl))
  exact (hF.made (i := 2) (by decide) _).take hm p
/-- any test of a refusal -/
theorem q_M_ref (h : VM ad S I b u) (hF : MF F I) (hq : RQ o n S I) {c d : Bool} {s : Nat → Prop} {A B : PS → Prop} (hA : ∀ u' : PS, (c || d) = true → RM ad b F o (if c then 1 else 2) n u' → A u') (hB : ∀ (u' : PS) (S' : Nat → Int32), c = false → d = false → VM ad S' I b u' → RQ o n S' I → S' 0 = 0 → B u') : p_M_refuse (ad 0) (bI c) (bI d) u (fun r u' => (¬ r = 0 → A u') ∧ (r = 0 → B u')) := by
  refine q_M_refuse h (fun u' t ht h' => ?_)
  have hq' := hq.ups (i := 0) t (by decide)
  have e0 : va_up S 0 t 0 = t := up_eq _ _ _
  cases c
  · cases d
    · refine ⟨fun e => absurd rfl e, fun _ => hB u' _ rfl rfl h' hq' (by rw [e0, ht]; rfl)⟩
    · refine ⟨fun _ => hA u' rfl (RM.of h' hF hq' (by rw [e0, ht]; rfl)), fun e => absurd e (by decide)⟩
  · refine ⟨fun _ => hA u' rfl (RM.of h' hF hq' (by rw [e0, ht]; rfl)), fun e => absurd e (by cases d <;> decide)⟩
theorem q_M_constant_L {p : Nat} (hp : p < 24) {c : Bool} {E : PS → Prop} (hE : ∀ u' : PS, VM ad S (va_up I 1 (tk (I 1) (fun _ => bI c) p 1024)) b u' → E u') : ∀ (d v : Nat) (u : PS), v + d = 1024 → VM ad S (va_up I 1 (tk (I 1) (fun _ => bI c) p v)) b u → p_M_constant_L42 (ad 0) (nI p) (bI c) E (d + 1) (nI v) u := by
  intro d
  induction d with
  | zero =>
    intro v u hv h
    obtain rfl : v = 1024 := by omega
    rw [p_M_constant_L42]
    exact pk_le 1024 1024 (fun _ => hE u h) (fun h9 => absurd h9 (by omega))
  | succ d ih =>
    intro v u hv h
    rw [p_M_constant_L42]
    refine pk_le 1024 v (fun h9 => absurd h9 (by omega)) (fun _ => ?_)
    refine ⟨_, h.fv rfl, ?_⟩
    have go : p_M_constant_J70 (p_M_constant_L42 (ad 0) (nI p) (bI c) E (d + 1)) E (ad 0) (nI p) (bI c) (nI v) (ad 1) ((1024 : Int32) * nI p + nI v) (bI c) u := by
      unfold p_M_constant_J70
      refine st_tab (m := fun _ => bI c) h hp (by omega) (bI_z2 c) (fun u' h' => nm_e ?_)
      rw [nI_1]
      exact ih (v + 1) u' (by omega) h'
    cases c
    · exact ⟨fun _ => go, fun e => absurd e (by decide)⟩
    · exact ⟨fun e => absurd rfl e, fun _ => go⟩
def sp_constant (x y : Int32) (F : Nat → Nat → Bool) : Int32 × (Nat → Nat → Bool) := if okP x then if okB y then (0, upF F x.toNatClampNeg (fun _ => decide (y = 1))) else (2, F) else (1, F)
theorem q_M_constant (h : RM ad b F o t n u) {x y : Int32} {K : PS → Prop} (hK : ∀ u' : PS, RM ad b (sp_constant x y F).2 o (sp_constant x y F).1 n u' → K u') : p_M_constant (ad 0) x y u K := by
  obtain ⟨S, I, h, hF, hq, ht⟩ := h.un
  have j34 : ∀ d : Bool, d = (okP x && !okB y) → p_M_constant_J34 K (ad 0) x y (ad 0) (bI (!okP x)) (bI d) u := by
    intro d hd
    unfold p_M_constant_J34
    refine ⟨h.ob, q_M_ref (s := fun _ => True) h hF hq (fun u' hc h' => hK u' ?_) (fun u' S' hc hd' h' hq' h0 => ?_)⟩
    · have e : sp_constant x y F = ((if (!okP x) then 1 else 2), F) := by
        unfold sp_constant
        cases hx : okP x
        · simp
        · cases hy : okB y
          · simp
          · rw [hx, hy] at hd; subst hd; rw [hx] at hc; exact absurd hc (by decide)
      rw [e]; exact h'
    · have hx : okP x = true := by cases hx : okP x; rw [hx] at hc; exact absurd hc (by decide); rfl
      have hy : okB y = true := by
        cases hy : okB y
        · rw [hx, hy, hd'] at hd; exact absurd hd (by decide)
        · rfl
      obtain ⟨p, hp, rfl⟩ := okP_nI hx
      obtain ⟨c, rfl⟩ := okB_nI hy
      refine ⟨1025, q_M_constant_L hp (fun u2 h2 => hK u2 ?_) 1024 0 u' rfl (st_tab0 h' _ p)⟩
      have e : sp_constant (nI p) (bI c) F = (0, upF F p (fun _ => c)) := by
        unfold sp_constant
        rw [if_pos hx, if_pos hy, nI_clamp (by omega)]
        cases c <;> rfl
      rw [e]
      exact RM.of h2 (hF.take (fun _ _ => rfl) p) (hq'.up _ (by decide) (by decide)) h0
  have j13 : p_M_constant_J13 K (ad 0) x y (ad 0) (bI (!okP x)) u := by
    unfold p_M_constant_J13
    refine q_M_isPlace ?_
    cases hx : okP x
    · refine ⟨fun _ => ?_, fun e => absurd rfl e⟩
      unfold p_M_constant_J33
      have := j34 false (by rw [hx]; rfl)
      rw [hx] at this
      exact this
    · refine ⟨fun e => absurd e (by decide), fun _ => q_M_in ?_⟩
      show (¬ bI (okB y) = 0 → _) ∧ (bI (okB y) = 0 → _)
      cases hy : okB y
      · refine ⟨fun e => absurd rfl e, fun _ => ?_⟩
        have := j34 true (by rw [hx, hy]; rfl)
        rw [hx] at this
        exact this
      · refine ⟨fun _ => ?_, fun e => absurd e (by decide)⟩
        unfold p_M_constant_J33
        have := j34 false (by rw [hx, hy]; rfl)
        rw [hx] at this
        exact this
  unfold p_M_constant
  refine q_M_isPlace ?_
  cases hx : okP x
  · rw [hx] at j13
    exact ⟨fun e => absurd rfl e, fun _ => j13⟩
  · rw [hx] at j13
    exact ⟨fun _ => j13, fun e => absurd e (by decide)⟩
end REF2
