/-! the reference: input, make, choose, fix, compose -/
theorem e_isPlace {x : Int32} {u : PS} {K : Int32 → PS → Prop} : p_M_isPlace x u K = K (bI (okP x)) u := by
  refine propext ⟨fun h => ?_, fun h => q_M_isPlace h⟩
  have h2 : p_M_in x 0 23 u (fun r u1 => xZ r ∧ K r u1) := h
  unfold p_M_in at h2
  by_cases h1 : x < 0
  · rw [show okP x = false from decide_eq_false (fun c => absurd c.1 (Int32.not_le.mpr h1))]
    exact (h2.1 h1).2.2
  · by_cases h3 : 23 < x
    · rw [show okP x = false from decide_eq_false (fun c => absurd c.2 (Int32.not_le.mpr h3))]
      exact ((h2.2 h1).1 h3).2.2
    · rw [show okP x = true from decide_eq_true ⟨Int32.not_lt.mp h1, Int32.not_lt.mp h3⟩]
      exact ((h2.2 h1).2 h3).2.2
theorem e_in {x lo hi : Int32} {u : PS} {K : Int32 → PS → Prop} : p_M_in x lo hi u K = K (bI (decide (lo ≤ x ∧ x ≤ hi))) u := by
  refine propext ⟨fun h => ?_, fun h => q_M_in h⟩
  unfold p_M_in at h
  by_cases h1 : x < lo
  · rw [decide_eq_false (fun c => absurd c.1 (Int32.not_le.mpr h1))]
    exact (h.1 h1).2
  · by_cases h3 : hi < x
    · rw [decide_eq_false (fun c => absurd c.2 (Int32.not_le.mpr h3))]
      exact ((h.2 h1).1 h3).2
    · rw [decide_eq_true ⟨Int32.not_lt.mp h1, Int32.not_lt.mp h3⟩]
      exact ((h.2 h1).2 h3).2
theorem e_isInput {x : Int32} {u : PS} {K : Int32 → PS → Prop} : p_M_isInput x u K = K (bI (okI x)) u := by
  unfold p_M_isInput
  rw [e_in]
  exact propext ⟨fun h => h.2, fun h => ⟨bI_z _, h⟩⟩
theorem e_okB {x : Int32} : decide ((0 : Int32) ≤ x ∧ x ≤ 1) = okB x := rfl
theorem e_okK {x : Int32} : decide ((0 : Int32) ≤ x ∧ x ≤ 5) = okK x := rfl
theorem e_okW {x : Int32} : decide ((0 : Int32) ≤ x ∧ x ≤ 1023) = okW x := rfl
theorem e_okI {x : Int32} : decide ((0 : Int32) ≤ x ∧ x ≤ 9) = okI x := rfl
theorem brn_t {c A B : Prop} (h : c) (b : B) : (¬ c → A) ∧ (c → B) := ⟨fun e => absurd h e, fun _ => b⟩
theorem brn_f {c A B : Prop} (h : ¬ c) (a : A) : (¬ c → A) ∧ (c → B) := ⟨fun _ => a, fun e => absurd e h⟩
theorem ts_b {c : Bool} (h : (!c) = false) : c = true := by cases c; exact absurd h (by decide); rfl
section REF3
variable {ad : Nat → Nat} {S : Nat → Int32} {I : Nat → Nat → Int32} {b u : PS} {F : Nat → Nat → Bool} {g : Nat → Bool} {o : Nat → Nat} {t : Int32} {n : Nat}
theorem q_M_choose_L {p q r s : Nat} (hq : q < 24) (hr : r < 24) (hs : s < 24) (hF : MF F I) {E : PS → Prop} (hE : ∀ u' : PS, VM ad S (va_up I 2 (mkm (I 2) (fun v => if F q v then F r v else F s v) 1024)) b u' → E u') : ∀ (d v : Nat) (u : PS), v + d = 1024 → VM ad S (va_up I 2 (mkm (I 2) (fun v => if F q v then F r v else F s v) v)) b u → p_M_choose_L45 (ad 0) (nI p) (nI q) (nI r) (nI s) E (d + 1) (nI v) u := by
  intro d
  induction d with
  | zero =>
    intro v u hv h
    obtain rfl : v = 1024 := by omega
    rw [p_M_choose_L45]
    exact pk_le 1024 1024 (fun _ => hE u h) (fun h9 => absurd h9 (by omega))
  | succ d ih =>
    intro v u hv h
    rw [p_M_choose_L45]
    refine pk_le 1024 v (fun h9 => absurd h9 (by omega)) (fun _ => ?_)
    have hF' := hF.made (i := 2) (by decide) (mkm (I 2) (fun v => if F q v then F r v else F s v) v)
    have hv' : v < 1024 := by omega
    refine ⟨_, h.fv rfl, h.ob, q_M_is h hF' hq hv' ?_⟩
    cases hc : F q v
    · exact br_t rfl ⟨h.ob, q_M_is h hF' hs hv' (st_made h hv' (by rw [if_neg (by rw [hc]; decide)]) (fun u1 h1 => nm_e (by rw [nI_1]; exact ih (v + 1) u1 (by omega) h1)))⟩
    · exact br_f (by decide) ⟨h.ob, q_M_is h hF' hr hv' (st_made h hv' (by rw [if_pos hc]) (fun u1 h1 => nm_e (by rw [nI_1]; exact ih (v + 1) u1 (by omega) h1)))⟩
theorem q_M_fix_L {p q k : Nat} {c : Bool} (hq : q < 24) (hk : k < 10) (hF : MF F I) {E : PS → Prop} (hE : ∀ u' : PS, VM ad S (va_up I 2 (mkm (I 2) (fun v => F q (setb v k c)) 1024)) b u' → E u') : ∀ (d v : Nat) (u : PS), v + d = 1024 → VM ad S (va_up I 2 (mkm (I 2) (fun v => F q (setb v k c)) v)) b u → p_M_fix_L68 (ad 0) (nI p) (nI q) (nI k) (bI c) E (d + 1) (nI v) u := by
  intro d
  induction d with
  | zero =>
    intro v u hv h
    obtain rfl : v = 1024 := by omega
    rw [p_M_fix_L68]
    exact pk_le 1024 1024 (fun _ => hE u h) (fun h9 => absurd h9 (by omega))
  | succ d ih =>
    intro v u hv h
    rw [p_M_fix_L68]
    refine pk_le 1024 v (fun h9 => absurd h9 (by omega)) (fun _ => ?_)
    have hF' := hF.made (i := 2) (by decide) (mkm (I 2) (fun v => F q (setb v k c)) v)
    have hv' : v < 1024 := by omega
    refine ⟨_, h.fv rfl, ?_⟩
    cases c
    · refine brn_f (by decide) ?_
      rw [nI_set0 (by omega) (by omega)]
      exact ⟨h.ob, q_M_is h hF' hq (setb_10 _ hv' hk) (st_made h hv' rfl (fun u1 h1 => nm_e (by rw [nI_1]; exact ih (v + 1) u1 (by omega) h1)))⟩
    · refine brn_t rfl ?_
      rw [nI_set1 (by omega)]
      exact ⟨h.ob, q_M_is h hF' hq (setb_10 _ hv' hk) (st_made h hv' rfl (fun u1 h1 => nm_e (by rw [nI_1]; exact ih (v + 1) u1 (by omega) h1)))⟩
theorem q_M_compose_L {p q k r : Nat} (hq : q < 24) (hk : k < 10) (hr : r < 24) (hF : MF F I) {E : PS → Prop} (hE : ∀ u' : PS, VM ad S (va_up I 2 (mkm (I 2) (fun v => F q (setb v k (F r v))) 1024)) b u' → E u') : ∀ (d v : Nat) (u : PS), v + d = 1024 → VM ad S (va_up I 2 (mkm (I 2) (fun v => F q (setb v k (F r v))) v)) b u → p_M_compose_L66 (ad 0) (nI p) (nI q) (nI k) (nI r) E (d + 1) (nI v) u := by
  intro d
  induction d with
  | zero =>
    intro v u hv h
    obtain rfl : v = 1024 := by omega
    rw [p_M_compose_L66]
    exact pk_le 1024 1024 (fun _ => hE u h) (fun h9 => absurd h9 (by omega))
  | succ d ih =>
    intro v u hv h
    rw [p_M_compose_L66]
    refine pk_le 1024 v (fun h9 => absurd h9 (by omega)) (fun _ => ?_)
    have hF' := hF.made (i := 2) (by decide) (mkm (I 2) (fun v => F q (setb v k (F r v))) v)
    have hv' : v < 1024 := by omega
    refine ⟨_, h.fv rfl, h.ob, q_M_is h hF' hr hv' ?_⟩
    cases hc : F r v
    · refine br_t rfl ?_
      rw [nI_set0 (by omega) (by omega)]
      exact ⟨h.ob, q_M_is h hF' hq (setb_10 _ hv' hk) (st_made h hv' (by rw [hc]) (fun u1 h1 => nm_e (by rw [nI_1]; exact ih (v + 1) u1 (by omega) h1)))⟩
    · refine br_f (by decide) ?_
      rw [nI_set1 (by omega)]
      exact ⟨h.ob, q_M_is h hF' hq (setb_10 _ hv' hk) (st_made h hv' (by rw [hc]) (fun u1 h1 => nm_e (by rw [nI_1]; exact ih (v + 1) u1 (by omega) h1)))⟩
theorem q_M_quantify_L {p q : Nat} {x y : Int32} (hq : q < 24) (hF : MF F I) {E : PS → Prop} (hE : ∀ u' : PS, VM ad S (va_up I 2 (mkm (I 2) (fun v => F q v) 1024)) b u' → E u') : ∀ (d v : Nat) (u : PS), v + d = 1024 → VM ad S (va_up I 2 (mkm (I 2) (fun v => F q v) v)) b u → p_M_quantify_L62 (ad 0) (nI p) (nI q) x y E (d + 1) (nI v) u := by
  intro d
  induction d with
  | zero =>
    intro v u hv h
    obtain rfl : v = 1024 := by omega
    rw [p_M_quantify_L62]
    exact pk_le 1024 1024 (fun _ => hE u h) (fun h9 => absurd h9 (by omega))
  | succ d ih =>
    intro v u hv h
    rw [p_M_quantify_L62]
    refine pk_le 1024 v (fun h9 => absurd h9 (by omega)) (fun _ => ?_)
    have hF' := hF.made (i := 2) (by decide) (mkm (I 2) (fun v => F q v) v)
    have hv' : v < 1024 := by omega
    refine ⟨_, h.fv rfl, h.ob, q_M_is h hF' hq hv' (st_made h hv' rfl (fun u1 h1 => nm_e (by rw [nI_1]; exact ih (v + 1) u1 (by omega) h1)))⟩
theorem q_M_meet_L {p q r : Nat} {x : Int32} (hq : q < 24) (hr : r < 24) (hF : MF F I) {E : PS → Prop} (hE : ∀ u' : PS, VM ad S (va_up I 2 (mkm (I 2) (fun v => F q v && F r v) 1024)) b u' → E u') : ∀ (d v : Nat) (u : PS), v + d = 1024 → VM ad S (va_up I 2 (mkm (I 2) (fun v => F q v && F r v) v)) b u → p_M_meet_L70 (ad 0) (nI p) (nI q) (nI r) x E (d + 1) (nI v) u := by
  intro d
  induction d with
  | zero =>
    intro v u hv h
    obtain rfl : v = 1024 := by omega
    rw [p_M_meet_L70]
    exact pk_le 1024 1024 (fun _ => hE u h) (fun h9 => absurd h9 (by omega))
  | succ d ih =>
    intro v u hv h
    rw [p_M_meet_L70]
    refine pk_le 1024 v (fun h9 => absurd h9 (by omega)) (fun _ => ?_)
    have hF' := hF.made (i := 2) (by decide) (mkm (I 2) (fun v => F q v && F r v) v)
    have hv' : v < 1024 := by omega
    refine ⟨_, h.fv rfl, h.ob, q_M_is h hF' hq hv' ?_⟩
    cases hc : F q v
    · exact br_t rfl (st_made h hv' (by rw [hc]; rfl) (fun u1 h1 => nm_e (by rw [nI_1]; exact ih (v + 1) u1 (by omega) h1)))
    · refine br_f (by decide) ⟨h.ob, q_M_is h hF' hr hv' ?_⟩
      cases hd : F r v
      · exact br_t rfl (st_made h hv' (by rw [hc, hd]; rfl) (fun u1 h1 => nm_e (by rw [nI_1]; exact ih (v + 1) u1 (by omega) h1)))
      · exact br_f (by decide) (st_made h hv' (by rw [hc, hd]; rfl) (fun u1 h1 => nm_e (by rw [nI_1]; exact ih (v + 1) u1 (by omega) h1)))
theorem q_M_input_L {p k : Nat} (hp : p < 24) (hk : k < 10) {E : PS → Prop} (hE : ∀ u' : PS, VM ad S (va_up I 1 (tk (I 1) (fun v => bI (v.testBit k)) p 1024)) b u' → E u') : ∀ (d v : Nat) (u : PS), v + d = 1024 → VM ad S (va_up I 1 (tk (I 1) (fun v => bI (v.testBit k)) p v)) b u → p_M_input_L40 (ad 0) (nI p) (nI k) E (d + 1) (nI v) u := by
  intro d
  induction d with
  | zero =>
    intro v u hv h
    obtain rfl : v = 1024 := by omega
    rw [p_M_input_L40]
    exact pk_le 1024 1024 (fun _ => hE u h) (fun h9 => absurd h9 (by omega))
  | succ d ih =>
    intro v u hv h
    rw [p_M_input_L40]
    refine pk_le 1024 v (fun h9 => absurd h9 (by omega)) (fun _ => ?_)
    refine ⟨_, h.fv rfl, ?_⟩
    have go : p_M_input_J72 (p_M_input_L40 (ad 0) (nI p) (nI k) E (d + 1)) E (ad 0) (nI p) (nI k) (nI v) (ad 1) ((1024 : Int32) * nI p + nI v) (bI (v.testBit k)) u := by
      unfold p_M_input_J72
      refine st_tab (m := fun v => bI (v.testBit k)) h hp (by omega) (bI_z2 _) (fun u' h' => nm_e ?_)
      rw [nI_1]
      exact ih (v + 1) u' (by omega) h'
    rw [tb_nI (by omega) (by omega)]
    cases hc : v.testBit k
    · rw [hc] at go
      exact brn_f (by decide) go
    · rw [hc] at go
      exact brn_t rfl go
def sp_input (x y : Int32) (F : Nat → Nat → Bool) : Int32 × (Nat → Nat → Bool) := if okP x then if okI y then (0, upF F x.toNatClampNeg (fun v => v.testBit y.toNatClampNeg)) else (2, F) else (1, F)
theorem q_M_input (h : RM ad b F o t n u) {x y : Int32} {K : PS → Prop} (hK : ∀ u' : PS, RM ad b (sp_input x y F).2 o (sp_input x y F).1 n u' → K u') : p_M_input (ad 0) x y u K := by
  obtain ⟨S, I, h, hF, hq, ht⟩ := h.un
  have j : ∀ c d : Bool, c = (!okP x) → d = (okP x && !okI y) → p_M_input_J32 K (ad 0) x y (ad 0) (bI c) (bI d) u := by
    intro c d hc hd
    refine ⟨h.ob, q_M_ref (s := fun _ => True) h hF hq (fun u' hcd h' => hK u' ?_) (fun u' S' hc' hd' h' hq' h0 => ?_)⟩
    · have e : sp_input x y F = ((if c then 1 else 2), F) := by
        unfold sp_input
        subst hc hd
        cases hx : okP x <;> cases hy : okI y <;> simp_all
      rw [e]; exact h'
    · subst hc hd
      have hx := ts_b hc'
      have hy : okI y = true := by rw [hx] at hd'; exact ts_b hd'
      obtain ⟨p, hp, rfl⟩ := okP_nI hx
      obtain ⟨k, hk, rfl⟩ := okI_nI hy
      refine ⟨1025, q_M_input_L hp hk (fun u2 h2 => hK u2 ?_) 1024 0 u' rfl (st_tab0 h' _ p)⟩
      have e : sp_input (nI p) (nI k) F = (0, upF F p (fun v => v.testBit k)) := by
        unfold sp_input
        rw [if_pos hx, if_pos hy, nI_clamp (by omega), nI_clamp (by omega)]
      rw [e]
      exact RM.of h2 (hF.take (fun _ _ => rfl) p) (hq'.up _ (by decide) (by decide)) h0
  unfold p_M_input p_M_input_J13 p_M_input_J31
  simp only [e_isPlace, e_isInput]
  cases hx : okP x
  · exact brn_t rfl (br_t rfl (j true false (by rw [hx]; rfl) (by rw [hx]; rfl)))
  · cases hy : okI y
    · exact brn_f (by decide) (br_f (by decide) (brn_t rfl (j false true (by rw [hx]; rfl) (by rw [hx, hy]; rfl))))
    · exact brn_f (by decide) (br_f (by decide) (brn_f (by decide) (j false false (by rw [hx]; rfl) (by rw [hx, hy]; rfl))))
def sp_make (x kd y z : Int32) (F : Nat → Nat → Bool) : Int32 × (Nat → Nat → Bool) := if okP x && okP y && okP z then if okK kd then (0, upF F x.toNatClampNeg (fun v => two kd.toNatClampNeg (F y.toNatClampNeg v) (F z.toNatClampNeg v))) else (2, F) else (1, F)
theorem q_M_make (h : RM ad b F o t n u) {x kd y z : Int32} {K : PS → Prop} (hK : ∀ u' : PS, RM ad b (sp_make x kd y z F).2 o (sp_make x kd y z F).1 n u' → K u') : p_M_make (ad 0) x kd y z u K := by
  obtain ⟨S, I, h, hF, hq, ht⟩ := h.un
  have j : ∀ c d : Bool, c = (!(okP x && okP y && okP z)) → d = (okP x && okP y && okP z && !okK kd) → p_M_make_J59 K (ad 0) x kd y z (ad 0) (bI c) (bI d) u := by
    intro c d hc hd
    refine ⟨h.ob, q_M_ref (s := fun _ => True) h hF hq (fun u' hcd h' => hK u' ?_) (fun u' S' hc' hd' h' hq' h0 => ?_)⟩
    · have e : sp_make x kd y z F = ((if c then 1 else 2), F) := by
        unfold sp_make
        subst hc hd
        cases hx : (okP x && okP y && okP z) <;> cases hy : okK kd <;> simp_all
      rw [e]; exact h'
    · subst hc hd
      have hx := ts_b hc'
      have hy : okK kd = true := by rw [hx] at hd'; exact ts_b hd'
      have hx3 := hx
      simp only [Bool.and_eq_true] at hx3
      obtain ⟨p, hp, rfl⟩ := okP_nI hx3.1.1
      obtain ⟨q, hq2, rfl⟩ := okP_nI hx3.1.2
      obtain ⟨r, hr, rfl⟩ := okP_nI hx3.2
      obtain ⟨k, hk, rfl⟩ := okK_nI hy
      have e : sp_make (nI p) (nI k) (nI q) (nI r) F = (0, upF F p (fun v => two k (F q v) (F r v))) := by
        unfold sp_make
        rw [if_pos hx, if_pos hy, nI_clamp (by omega), nI_clamp (by omega), nI_clamp (by omega), nI_clamp (by omega)]
      refine ⟨1025, q_M_make_L hq2 hr hk hF (fun u2 h2 => ⟨h2.ob, q_M_taken h2 hF hq' hp (fun u3 h3 => hK u3 ?_)⟩) 1024 0 u' rfl (st_made0 h' _)⟩
      rw [e]
      rw [h0] at h3
      exact h3
  unfold p_M_make p_M_make_J26 p_M_make_J27 p_M_make_J40 p_M_make_J58
  simp only [e_isPlace, e_in, e_okK]
  cases hx : okP x
  · exact br_t rfl (brn_t (by decide) (br_t (by decide) (j true false (by rw [hx]; rfl) (by rw [hx]; rfl))))
  · refine br_f (by decide) ?_
    cases hy : okP y
    · exact br_t rfl (brn_t (by decide) (br_t (by decide) (j true false (by rw [hx, hy]; rfl) (by rw [hx, hy]; rfl))))
    · refine br_f (by decide) ?_
      cases hz : okP z
      · exact br_t rfl (brn_t (by decide) (br_t (by decide) (j true false (by rw [hx, hy, hz]; rfl) (by rw [hx, hy, hz]; rfl))))
      · refine br_f (by decide) (brn_f (by decide) (br_f (by decide) ?_))
        cases hk : okK kd
        · exact brn_t rfl (j false true (by rw [hx, hy, hz]; rfl) (by rw [hx, hy, hz, hk]; rfl))
        · exact brn_f (by decide) (j false false (by rw [hx, hy, hz]; rfl) (by rw [hx, hy, hz, hk]; rfl))
def sp_choose (x y z w : Int32) (F : Nat → Nat → Bool) : Int32 × (Nat → Nat → Bool) := if okP x && okP y && okP z && okP w then (0, upF F x.toNatClampNeg (fun v => if F y.toNatClampNeg v then F z.toNatClampNeg v else F w.toNatClampNeg v)) else (1, F)
theorem q_M_choose (h : RM ad b F o t n u) {x y z w : Int32} {K : PS → Prop} (hK : ∀ u' : PS, RM ad b (sp_choose x y z w F).2 o (sp_choose x y z w F).1 n u' → K u') : p_M_choose (ad 0) x y z w u K := by
  obtain ⟨S, I, h, hF, hq, ht⟩ := h.un
  have j : ∀ c : Bool, c = (!(okP x && okP y && okP z && okP w)) → p_M_choose_J35 K (ad 0) x y z w (ad 0) (bI c) u := by
    intro c hc
    refine ⟨h.ob, q_M_ref (d := false) (s := fun _ => True) h hF hq (fun u' hcd h' => hK u' ?_) (fun u' S' hc' hd' h' hq' h0 => ?_)⟩
    · have e : sp_choose x y z w F = ((if c then 1 else 2), F) := by
        unfold sp_choose
        subst hc
        cases hx : (okP x && okP y && okP z && okP w)
        · rfl
        · rw [hx] at hcd; exact absurd hcd (by decide)
      rw [e]; exact h'
    · subst hc
      have hx := ts_b hc'
      have hx3 := hx
      simp only [Bool.and_eq_true] at hx3
      obtain ⟨p, hp, rfl⟩ := okP_nI hx3.1.1.1
      obtain ⟨q, hq2, rfl⟩ := okP_nI hx3.1.1.2
      obtain ⟨r, hr, rfl⟩ := okP_nI hx3.1.2
      obtain ⟨s, hs, rfl⟩ := okP_nI hx3.2
      have e : sp_choose (nI p) (nI q) (nI r) (nI s) F = (0, upF F p (fun v => if F q v then F r v else F s v)) := by
        unfold sp_choose
        rw [if_pos hx, nI_clamp (by omega), nI_clamp (by omega), nI_clamp (by omega), nI_clamp (by omega)]
      refine ⟨1025, q_M_choose_L hq2 hr hs hF (fun u2 h2 => ⟨h2.ob, q_M_taken h2 hF hq' hp (fun u3 h3 => hK u3 ?_)⟩) 1024 0 u' rfl (st_made0 h' _)⟩
      rw [e]
      rw [h0] at h3
      exact h3
  unfold p_M_choose p_M_choose_J30
  simp only [e_isPlace]
  cases hx : okP x
  · exact br_t rfl (j true (by rw [hx]; rfl))
  · refine br_f (by decide) ?_
    cases hy : okP y
    · exact br_t rfl (j true (by rw [hx, hy]; rfl))
    · refine br_f (by decide) ?_
      cases hz : okP z
      · exact br_t rfl (j true (by rw [hx, hy, hz]; rfl))
      · refine br_f (by decide) ?_
        cases hw : okP w
        · exact brn_t rfl (j true (by rw [hx, hy, hz, hw]; rfl))
        · exact brn_f (by decide) (j false (by rw [hx, hy, hz, hw]; rfl))
def sp_fix (x y k w : Int32) (F : Nat → Nat → Bool) : Int32 × (Nat → Nat → Bool) := if okP x && okP y then if okI k && okB w then (0, upF F x.toNatClampNeg (fun v => F y.toNatClampNeg (setb v k.toNatClampNeg (decide (w = 1))))) else (2, F) else (1, F)
theorem q_M_fix (h : RM ad b F o t n u) {x y k w : Int32} {K : PS → Prop} (hK : ∀ u' : PS, RM ad b (sp_fix x y k w F).2 o (sp_fix x y k w F).1 n u' → K u') : p_M_fix (ad 0) x y k w u K := by
  obtain ⟨S, I, h, hF, hq, ht⟩ := h.un
  have j : ∀ c d : Bool, c = (!(okP x && okP y)) → d = (okP x && okP y && !(okI k && okB w)) → p_M_fix_J59 K (ad 0) x y k w (ad 0) (bI c) (bI d) u := by
    intro c d hc hd
    refine ⟨h.ob, q_M_ref (s := fun _ => True) h hF hq (fun u' hcd h' => hK u' ?_) (fun u' S' hc' hd' h' hq' h0 => ?_)⟩
    · have e : sp_fix x y k w F = ((if c then 1 else 2), F) := by
        unfold sp_fix
        subst hc hd
        cases hx : (okP x && okP y) <;> cases hy : (okI k && okB w) <;> simp_all
      rw [e]; exact h'
    · subst hc hd
      have hx := ts_b hc'
      have hy : (okI k && okB w) = true := by rw [hx] at hd'; exact ts_b hd'
      have hx3 := hx
      have hy3 := hy
      simp only [Bool.and_eq_true] at hx3 hy3
      obtain ⟨p, hp, rfl⟩ := okP_nI hx3.1
      obtain ⟨q, hq2, rfl⟩ := okP_nI hx3.2
      obtain ⟨i, hi, rfl⟩ := okI_nI hy3.1
      obtain ⟨c, rfl⟩ := okB_nI hy3.2
      have e : sp_fix (nI p) (nI q) (nI i) (bI c) F = (0, upF F p (fun v => F q (setb v i c))) := by
        unfold sp_fix
        rw [if_pos hx, if_pos hy, nI_clamp (by omega), nI_clamp (by omega), nI_clamp (by omega)]
        cases c <;> rfl
      refine ⟨1025, q_M_fix_L hq2 hi hF (fun u2 h2 => ⟨h2.ob, q_M_taken h2 hF hq' hp (fun u3 h3 => hK u3 ?_)⟩) 1024 0 u' rfl (st_made0 h' _)⟩
      rw [e]
      rw [h0] at h3
      exact h3
  unfold p_M_fix p_M_fix_J18 p_M_fix_J19 p_M_fix_J32 p_M_fix_J54 p_M_fix_J58
  simp only [e_isPlace, e_isInput, e_in, e_okB]
  cases hx : okP x
  · exact br_t rfl (brn_t (by decide) (br_t (by decide) (j true false (by rw [hx]; rfl) (by rw [hx]; rfl))))
  · refine br_f (by decide) ?_
    cases hy : okP y
    · exact br_t rfl (brn_t (by decide) (br_t (by decide) (j true false (by rw [hx, hy]; rfl) (by rw [hx, hy]; rfl))))
    · refine br_f (by decide) (brn_f (by decide) (br_f (by decide) ?_))
      cases hk : okI k
      · exact br_t rfl (j false true (by rw [hx, hy]; rfl) (by rw [hx, hy, hk]; rfl))
      · refine br_f (by decide) ?_
        cases hw : okB w
        · exact brn_t rfl (j false true (by rw [hx, hy]; rfl) (by rw [hx, hy, hk, hw]; rfl))
        · exact brn_f (by decide) (j false false (by rw [hx, hy]; rfl) (by rw [hx, hy, hk, hw]; rfl))
def sp_compose (x y k z : Int32) (F : Nat → Nat → Bool) : Int32 × (Nat → Nat → Bool) := if okP x && okP y && okP z then if okI k then (0, upF F x.toNatClampNeg (fun v => F y.toNatClampNeg (setb v k.toNatClampNeg (F z.toNatClampNeg v)))) else (2, F) else (1, F)
theorem q_M_compose (h : RM ad b F o t n u) {x y k z : Int32} {K : PS → Prop} (hK : ∀ u' : PS, RM ad b (sp_compose x y k z F).2 o (sp_compose x y k z F).1 n u' → K u') : p_M_compose (ad 0) x y k z u K := by
  obtain ⟨S, I, h, hF, hq, ht⟩ := h.un
  have j : ∀ c d : Bool, c = (!(okP x && okP y && okP z)) → d = (okP x && okP y && okP z && !okI k) → p_M_compose_J57 K (ad 0) x y k z (ad 0) (bI c) (bI d) u := by
    intro c d hc hd
    refine ⟨h.ob, q_M_ref (s := fun _ => True) h hF hq (fun u' hcd h' => hK u' ?_) (fun u' S' hc' hd' h' hq' h0 => ?_)⟩
    · have e : sp_compose x y k z F = ((if c then 1 else 2), F) := by
        unfold sp_compose
        subst hc hd
        cases hx : (okP x && okP y && okP z) <;> cases hy : okI k <;> simp_all
      rw [e]; exact h'
    · subst hc hd
      have hx := ts_b hc'
      have hy : okI k = true := by rw [hx] at hd'; exact ts_b hd'
      have hx3 := hx
      simp only [Bool.and_eq_true] at hx3
      obtain ⟨p, hp, rfl⟩ := okP_nI hx3.1.1
      obtain ⟨q, hq2, rfl⟩ := okP_nI hx3.1.2
      obtain ⟨r, hr, rfl⟩ := okP_nI hx3.2
      obtain ⟨i, hi, rfl⟩ := okI_nI hy
      have e : sp_compose (nI p) (nI q) (nI i) (nI r) F = (0, upF F p (fun v => F q (setb v i (F r v)))) := by
        unfold sp_compose
        rw [if_pos hx, if_pos hy, nI_clamp (by omega), nI_clamp (by omega), nI_clamp (by omega), nI_clamp (by omega)]
      refine ⟨1025, q_M_compose_L hq2 hi hr hF (fun u2 h2 => ⟨h2.ob, q_M_taken h2 hF hq' hp (fun u3 h3 => hK u3 ?_)⟩) 1024 0 u' rfl (st_made0 h' _)⟩
      rw [e]
      rw [h0] at h3
      exact h3
  unfold p_M_compose p_M_compose_J26 p_M_compose_J27 p_M_compose_J40 p_M_compose_J56
  simp only [e_isPlace, e_isInput]
  cases hx : okP x
  · exact br_t rfl (brn_t (by decide) (br_t (by decide) (j true false (by rw [hx]; rfl) (by rw [hx]; rfl))))
  · refine br_f (by decide) ?_
    cases hy : okP y
    · exact br_t rfl (brn_t (by decide) (br_t (by decide) (j true false (by rw [hx, hy]; rfl) (by rw [hx, hy]; rfl))))
    · refine br_f (by decide) ?_
      cases hz : okP z
      · exact br_t rfl (brn_t (by decide) (br_t (by decide) (j true false (by rw [hx, hy, hz]; rfl) (by rw [hx, hy, hz]; rfl))))
      · refine br_f (by decide) (brn_f (by decide) (br_f (by decide) ?_))
        cases hk : okI k
        · exact brn_t rfl (j false true (by rw [hx, hy, hz]; rfl) (by rw [hx, hy, hz, hk]; rfl))
        · exact brn_f (by decide) (j false false (by rw [hx, hy, hz]; rfl) (by rw [hx, hy, hz, hk]; rfl))
end REF3
