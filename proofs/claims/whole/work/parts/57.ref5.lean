/-! the reference: order, value, count, least, support, alike -/
def cntT (f : Nat → Bool) : Nat → Nat
  | 0 => 0
  | n + 1 => if f n then cntT f n + 1 else cntT f n
theorem cntT_le (f : Nat → Bool) (n : Nat) : cntT f n ≤ n := by
  induction n with
  | zero => exact Nat.le_refl _
  | succ n ih =>
    rw [cntT]
    split <;> omega
def lstU (f : Nat → Bool) : Nat → Nat → Int32
  | 0, _ => -1
  | d + 1, v => if f v then nI v else lstU f d (v + 1)
def depT (f : Nat → Bool) (k : Nat) : Bool := (List.range 1024).any (fun v => f v != f (setb v k (!v.testBit k)))
def supN (f : Nat → Bool) : Nat → Nat
  | 0 => 0
  | k + 1 => setb (supN f k) k (depT f k)
theorem tb_sup (f : Nat → Bool) (n i : Nat) : (supN f n).testBit i = (decide (i < n) && depT f i) := by
  induction n with
  | zero => rw [supN, Nat.zero_testBit]; simp
  | succ n ih =>
    rw [supN, tb_setb]
    by_cases h : i = n
    · subst h; rw [if_pos rfl]; simp
    · rw [if_neg h, ih]
      congr 1
      exact decide_eq_decide.mpr (by omega)
theorem depT_iff {f : Nat → Bool} {k : Nat} : depT f k = true ↔ ∃ v : Nat, v < 1024 ∧ f v ≠ f (setb v k (!v.testBit k)) := by
  unfold depT
  rw [List.any_eq_true]
  constructor
  · rintro ⟨v, hv, h⟩
    exact ⟨v, List.mem_range.mp hv, by simpa using h⟩
  · rintro ⟨v, hv, h⟩
    exact ⟨v, List.mem_range.mpr hv, by simpa using h⟩
section REF5
variable {ad : Nat → Nat} {S : Nat → Int32} {I : Nat → Nat → Int32} {b u : PS} {F : Nat → Nat → Bool} {f g : Nat → Bool} {o : Nat → Nat} {t : Int32} {n : Nat}
theorem q_M_rf2 (h : VM ad S I b u) (hF : MF F I) (hq : RQ o n S I) {c d : Bool} {A B : PS → Prop} (hA : ∀ u' : PS, (c || d) = true → RM ad b F o (if c then 1 else 2) n u' → A u') (hB : ∀ (u' : PS) (S' : Nat → Int32), c = false → d = false → VM ad S' I b u' → RQ o n S' I → S' 0 = 0 → RM ad b F o 0 n u' → B u') : p_M_refuse (ad 0) (bI c) (bI d) u (fun r u' => (r = 0 → B u') ∧ (¬ r = 0 → A u')) := by
  refine q_M_refuse h (fun u' t ht h' => ?_)
  have hq' := hq.ups (i := 0) t (by decide)
  have e0 : va_up S 0 t 0 = t := up_eq _ _ _
  cases c
  · cases d
    · have z : va_up S 0 t 0 = 0 := by rw [e0, ht]; rfl
      exact br_t rfl (hB u' _ rfl rfl h' hq' z (RM.of h' hF hq' z))
    · exact br_f (by decide) (hA u' rfl (RM.of h' hF hq' (by rw [e0, ht]; rfl)))
  · exact br_f (by cases d <;> decide) (hA u' rfl (RM.of h' hF hq' (by rw [e0, ht]; rfl)))
def sp_order (x : Int32) (o : Nat → Nat) : Int32 × Int32 := if okI x then (0, nI (o x.toNatClampNeg)) else (1, 0)
theorem q_M_order (h : RM ad b F o t n u) {x : Int32} {K : Int32 → PS → Prop} (hK : ∀ u' : PS, RM ad b F o (sp_order x o).1 n u' → K (sp_order x o).2 u') : p_M_order (ad 0) x u K := by
  obtain ⟨S, I, h, hF, hq, ht⟩ := h.un
  have j : ∀ c : Bool, c = (!okI x) → p_M_order_J13 K (ad 0) x (ad 0) (bI c) u := by
    intro c hc
    refine ⟨h.ob, q_M_rf2 (d := false) h hF hq (fun u' hcd h' => ?_) (fun u' S' hc' hd' h' hq' h0 hR => ?_)⟩
    · subst hc
      have e : sp_order x o = (1, 0) := by
        unfold sp_order
        rw [if_neg (by intro z; rw [z] at hcd; exact absurd hcd (by decide))]
      have := hK u'
      rw [e] at this
      cases hx : okI x
      · rw [hx] at h'; exact this h'
      · rw [hx] at hcd; exact absurd hcd (by decide)
    · subst hc
      have hx := ts_b hc'
      obtain ⟨k, hk, rfl⟩ := okI_nI hx
      have e : sp_order (nI k) o = (0, nI (o k)) := by
        unfold sp_order
        rw [if_pos hx, nI_clamp (by omega)]
      have := hK u'
      rw [e] at this
      refine ⟨_, h'.fv rfl, _, h'.ia 3 (by decide) (by decide) rfl (vp_in_nI (by show _ < 10; omega) (by decide)), ?_⟩
      rw [nI_clamp (by omega), hq'.1 k hk]
      exact this hR
  unfold p_M_order
  rw [e_isInput]
  cases hx : okI x
  · exact brn_t rfl (j true (by rw [hx]; rfl))
  · exact brn_f (by decide) (j false (by rw [hx]; rfl))
def sp_value (x y : Int32) (F : Nat → Nat → Bool) : Int32 × Int32 := if okP x then if okW y then (0, bI (F x.toNatClampNeg y.toNatClampNeg)) else (2, 0) else (1, 0)
theorem q_M_value (h : RM ad b F o t n u) {x y : Int32} {K : Int32 → PS → Prop} (hK : ∀ u' : PS, RM ad b F o (sp_value x y F).1 n u' → K (sp_value x y F).2 u') : p_M_value (ad 0) x y u K := by
  obtain ⟨S, I, h, hF, hq, ht⟩ := h.un
  have j : ∀ c d : Bool, c = (!okP x) → d = (okP x && !okW y) → p_M_value_J36 K (ad 0) x y (ad 0) (bI c) (bI d) u := by
    intro c d hc hd
    refine ⟨h.ob, q_M_rf2 h hF hq (fun u' hcd h' => ⟨Or.inl rfl, ?_⟩) (fun u' S' hc' hd' h' hq' h0 hR => ?_)⟩
    · have e : sp_value x y F = ((if c then 1 else 2), 0) := by
        unfold sp_value
        subst hc hd
        cases hx : okP x <;> cases hy : okW y <;> simp_all
      have := hK u'
      rw [e] at this
      exact this h'
    · subst hc hd
      have hx := ts_b hc'
      have hy : okW y = true := by rw [hx] at hd'; exact ts_b hd'
      obtain ⟨p, hp, rfl⟩ := okP_nI hx
      obtain ⟨v, hv, rfl⟩ := okW_nI hy
      have e : sp_value (nI p) (nI v) F = (0, bI (F p v)) := by
        unfold sp_value
        rw [if_pos hx, if_pos hy, nI_clamp (by omega), nI_clamp (by omega)]
      have := hK u'
      rw [e] at this
      exact ⟨h'.ob, q_M_is h' hF hp hv ⟨bI_z _, this hR⟩⟩
  unfold p_M_value p_M_value_J13 p_M_value_J35
  simp only [e_isPlace, e_in, e_okW]
  cases hx : okP x
  · exact brn_t rfl (br_t (by decide) (j true false (by rw [hx]; rfl) (by rw [hx]; rfl)))
  · cases hy : okW y
    · exact brn_f (by decide) (br_f (by decide) (brn_t rfl (j false true (by rw [hx]; rfl) (by rw [hx, hy]; rfl))))
    · exact brn_f (by decide) (br_f (by decide) (brn_f (by decide) (j false false (by rw [hx]; rfl) (by rw [hx, hy]; rfl))))
theorem q_M_count_L {p : Nat} (hp : p < 24) (h : VM ad S I b u) (hF : MF F I) {E : Int32 → PS → Prop} (hE : E (nI (cntT (F p) 1024)) u) : ∀ (d v : Nat), v + d = 1024 → p_M_count_L26 (ad 0) (nI p) E (d + 1) (nI (cntT (F p) v)) (nI v) u := by
  intro d
  induction d with
  | zero =>
    intro v hv
    obtain rfl : v = 1024 := by omega
    rw [p_M_count_L26]
    exact pk_le 1024 1024 (fun _ => hE) (fun h9 => absurd h9 (by omega))
  | succ d ih =>
    intro v hv
    rw [p_M_count_L26]
    refine pk_le 1024 v (fun h9 => absurd h9 (by omega)) (fun _ => ?_)
    have go := ih (v + 1) (by omega)
    unfold p_M_count_J49
    refine ⟨h.ob, q_M_is h hF hp (by omega) ?_⟩
    cases hc : F p v
    · refine br_t rfl (nm_e ?_)
      rw [cntT, hc] at go
      rw [nI_1]
      exact go
    · refine br_f (by decide) (nm_e ?_)
      rw [cntT, hc] at go
      rw [nI_1, nI_1]
      exact go
def sp_count (x : Int32) (F : Nat → Nat → Bool) : Int32 × Int32 := if okP x then (0, nI (cntT (F x.toNatClampNeg) 1024)) else (1, 0)
theorem q_M_count (h : RM ad b F o t n u) {x : Int32} {K : Int32 → PS → Prop} (hK : ∀ u' : PS, RM ad b F o (sp_count x F).1 n u' → K (sp_count x F).2 u') : p_M_count (ad 0) x u K := by
  obtain ⟨S, I, h, hF, hq, ht⟩ := h.un
  have j : ∀ c : Bool, c = (!okP x) → p_M_count_J13 K (ad 0) x (ad 0) (bI c) u := by
    intro c hc
    refine ⟨h.ob, q_M_rf2 (d := false) h hF hq (fun u' hcd h' => ?_) (fun u' S' hc' hd' h' hq' h0 hR => ?_)⟩
    · have hx : okP x = false := by subst hc; cases hx : okP x; rfl; rw [hx] at hcd; exact absurd hcd (by decide)
      have e : sp_count x F = (1, 0) := by
        unfold sp_count
        rw [hx]; rfl
      have := hK u'
      rw [e] at this
      rw [hc, hx] at h'
      exact this h'
    · subst hc
      have hx := ts_b hc'
      obtain ⟨p, hp, rfl⟩ := okP_nI hx
      have e : sp_count (nI p) F = (0, nI (cntT (F p) 1024)) := by
        unfold sp_count
        rw [if_pos hx, nI_clamp (by omega)]
      have := hK u'
      rw [e] at this
      exact ⟨1025, q_M_count_L hp h' hF (this hR) 1024 0 rfl⟩
  unfold p_M_count
  rw [e_isPlace]
  cases hx : okP x
  · exact brn_t rfl (j true (by rw [hx]; rfl))
  · exact brn_f (by decide) (j false (by rw [hx]; rfl))
theorem q_M_least_L {p : Nat} (hp : p < 24) (h : VM ad S I b u) (hF : MF F I) {E : Int32 → PS → Prop} (hE : E (lstU (F p) 1024 0) u) : ∀ (v : Nat), v ≤ 1024 → p_M_least_L28 (ad 0) (nI p) E (v + 1) (lstU (F p) (1024 - v) v) (nI v + (-1)) u := by
  intro v
  induction v with
  | zero =>
    intro _
    rw [p_M_least_L28]
    exact br_t (by decide) hE
  | succ v ih =>
    intro hv
    rw [p_M_least_L28, pk_m1]
    refine br_f (nI_pos (by omega)) ?_
    have go := ih (by omega)
    have e : 1024 - v = (1024 - (v + 1)) + 1 := by omega
    rw [e, lstU] at go
    unfold p_M_least_J46
    refine ⟨h.ob, q_M_is h hF hp (by omega) ?_⟩
    cases hc : F p v
    · refine br_t rfl (nm_e ?_)
      rw [hc] at go
      exact go
    · refine br_f (by decide) (nm_e ?_)
      rw [hc] at go
      exact go
def sp_least (x : Int32) (F : Nat → Nat → Bool) : Int32 × Int32 := if okP x then (0, lstU (F x.toNatClampNeg) 1024 0) else (1, 0)
theorem q_M_least (h : RM ad b F o t n u) {x : Int32} {K : Int32 → PS → Prop} (hK : ∀ u' : PS, RM ad b F o (sp_least x F).1 n u' → K (sp_least x F).2 u') : p_M_least (ad 0) x u K := by
  obtain ⟨S, I, h, hF, hq, ht⟩ := h.un
  have j : ∀ c : Bool, c = (!okP x) → p_M_least_J13 K (ad 0) x (ad 0) (bI c) u := by
    intro c hc
    refine ⟨h.ob, q_M_rf2 (d := false) h hF hq (fun u' hcd h' => ?_) (fun u' S' hc' hd' h' hq' h0 hR => ?_)⟩
    · have hx : okP x = false := by subst hc; cases hx : okP x; rfl; rw [hx] at hcd; exact absurd hcd (by decide)
      have e : sp_least x F = (1, 0) := by
        unfold sp_least
        rw [hx]; rfl
      have := hK u'
      rw [e] at this
      rw [hc, hx] at h'
      exact this h'
    · subst hc
      have hx := ts_b hc'
      obtain ⟨p, hp, rfl⟩ := okP_nI hx
      have e : sp_least (nI p) F = (0, lstU (F p) 1024 0) := by
        unfold sp_least
        rw [if_pos hx, nI_clamp (by omega)]
      have := hK u'
      rw [e] at this
      have go := q_M_least_L hp h' hF (this hR) 1024 (Nat.le_refl _)
      rw [Nat.sub_self, lstU, show nI 1024 + (-1) = (1023 : Int32) from by decide] at go
      exact ⟨1025, go⟩
  unfold p_M_least
  rw [e_isPlace]
  cases hx : okP x
  · exact brn_t rfl (j true (by rw [hx]; rfl))
  · exact brn_f (by decide) (j false (by rw [hx]; rfl))
/-- the bits found behind v ways and k inputs of the next -/
def spI (f : Nat → Bool) (v k B : Nat) : Prop := B < 1024 ∧ ∀ i : Nat, i < 10 → (B.testBit i = true ↔ (∃ w : Nat, w < v ∧ f w ≠ f (setb w i (!w.testBit i))) ∨ (i < k ∧ f v ≠ f (setb v i (!v.testBit i))))
theorem q_M_support_L36 {p v : Nat} (hp : p < 24) (hv : v < 1024) (h : VM ad S I b u) (hF : MF F I) {E : Int32 → PS → Prop} (hE : ∀ B : Nat, spI (F p) v 10 B → E (nI B) u) : ∀ (d k B : Nat), k + d = 10 → spI (F p) v k B → p_M_support_L36 (ad 0) (nI p) (nI v) E (d + 1) (nI B) (nI k) u := by
  intro d
  induction d with
  | zero =>
    intro k B hk hB
    obtain rfl : k = 10 := by omega
    rw [p_M_support_L36]
    exact pk_le 10 10 (fun _ => hE B hB) (fun h9 => absurd h9 (by omega))
  | succ d ih =>
    intro k B hk hB
    rw [p_M_support_L36]
    refine pk_le 10 k (fun h9 => absurd h9 (by omega)) (fun _ => ?_)
    unfold p_M_support_J73
    refine ⟨h.ob, q_M_is h hF hp hv ⟨h.ob, ?_⟩⟩
    rw [nI_flip (by omega)]
    refine q_M_is h hF hp (setb_10 _ hv (by omega)) ?_
    by_cases hc : F p v = F p (setb v k (!v.testBit k))
    · refine br_t (bI_inj.mpr hc) (nm_e ?_)
      rw [nI_1]
      refine ih (k + 1) B (by omega) ⟨hB.1, fun i hi => ?_⟩
      rw [hB.2 i hi]
      constructor
      · rintro (x | ⟨x, y⟩)
        · exact Or.inl x
        · exact Or.inr ⟨by omega, y⟩
      · rintro (x | ⟨x, y⟩)
        · exact Or.inl x
        · by_cases hik : i = k
          · subst hik; exact absurd hc y
          · exact Or.inr ⟨by omega, y⟩
    · refine br_f (fun e => hc (bI_inj.mp e)) (nm_e ?_)
      rw [nI_1, nI_set1 (by omega)]
      refine ih (k + 1) _ (by omega) ⟨setb_10 _ hB.1 (by omega), fun i hi => ?_⟩
      rw [tb_setb]
      by_cases hik : i = k
      · subst hik
        rw [if_pos rfl]
        exact ⟨fun _ => Or.inr ⟨by omega, hc⟩, fun _ => rfl⟩
      · rw [if_neg hik, hB.2 i hi]
        constructor
        · rintro (x | ⟨x, y⟩)
          · exact Or.inl x
          · exact Or.inr ⟨by omega, y⟩
        · rintro (x | ⟨x, y⟩)
          · exact Or.inl x
          · exact Or.inr ⟨by omega, y⟩
theorem q_M_support_L26 {p : Nat} (hp : p < 24) (h : VM ad S I b u) (hF : MF F I) {E : Int32 → PS → Prop} (hE : E (nI (supN (F p) 10)) u) : ∀ (d v B : Nat), v + d = 1024 → spI (F p) v 0 B → p_M_support_L26 (ad 0) (nI p) E (d + 1) (nI B) (nI v) u := by
  intro d
  induction d with
  | zero =>
    intro v B hv hB
    obtain rfl : v = 1024 := by omega
    rw [p_M_support_L26]
    refine pk_le 1024 1024 (fun _ => ?_) (fun h9 => absurd h9 (by omega))
    have e : B = supN (F p) 10 := by
      refine Nat.eq_of_testBit_eq (fun i => ?_)
      rw [tb_sup]
      by_cases hi : i < 10
      · rw [decide_eq_true hi, Bool.true_and]
        have h1 := hB.2 i hi
        have h2 := depT_iff (f := F p) (k := i)
        have h3 : B.testBit i = true ↔ depT (F p) i = true := by
          rw [h1, h2]
          constructor
          · rintro (x | ⟨x, y⟩)
            · exact x
            · omega
          · exact fun x => Or.inl x
        cases hx : B.testBit i <;> cases hy : depT (F p) i
        · rfl
        · exact absurd (h3.mpr hy) (by rw [hx]; decide)
        · exact absurd (h3.mp hx) (by rw [hy]; decide)
        · rfl
      · rw [decide_eq_false hi, Bool.false_and]
        exact Nat.testBit_lt_two_pow (Nat.lt_of_lt_of_le hB.1 (Nat.pow_le_pow_right (n := 2) (i := 10) (by omega) (by omega)))
    rw [e]
    exact hE
  | succ d ih =>
    intro v B hv hB
    rw [p_M_support_L26]
    refine pk_le 1024 v (fun h9 => absurd h9 (by omega)) (fun _ => ?_)
    unfold p_M_support_J80
    refine ⟨11, q_M_support_L36 hp (by omega) h hF (fun B' hB' => nm_e ?_) 10 0 B rfl hB⟩
    rw [nI_1]
    refine ih (v + 1) B' (by omega) ⟨hB'.1, fun i hi => ?_⟩
    rw [hB'.2 i hi]
    constructor
    · rintro (⟨w, hw, x⟩ | ⟨_, y⟩)
      · exact Or.inl ⟨w, by omega, x⟩
      · exact Or.inl ⟨v, by omega, y⟩
    · rintro (⟨w, hw, x⟩ | ⟨x, y⟩)
      · by_cases hwv : w = v
        · subst hwv; exact Or.inr ⟨hi, x⟩
        · exact Or.inl ⟨w, by omega, x⟩
      · omega
def sp_support (x : Int32) (F : Nat → Nat → Bool) : Int32 × Int32 := if okP x then (0, nI (supN (F x.toNatClampNeg) 10)) else (1, 0)
theorem q_M_support (h : RM ad b F o t n u) {x : Int32} {K : Int32 → PS → Prop} (hK : ∀ u' : PS, RM ad b F o (sp_support x F).1 n u' → K (sp_support x F).2 u') : p_M_support (ad 0) x u K := by
  obtain ⟨S, I, h, hF, hq, ht⟩ := h.un
  have j : ∀ c : Bool, c = (!okP x) → p_M_support_J13 K (ad 0) x (ad 0) (bI c) u := by
    intro c hc
    refine ⟨h.ob, q_M_rf2 (d := false) h hF hq (fun u' hcd h' => ?_) (fun u' S' hc' hd' h' hq' h0 hR => ?_)⟩
    · have hx : okP x = false := by subst hc; cases hx : okP x; rfl; rw [hx] at hcd; exact absurd hcd (by decide)
      have e : sp_support x F = (1, 0) := by
        unfold sp_support
        rw [hx]; rfl
      have := hK u'
      rw [e] at this
      rw [hc, hx] at h'
      exact this h'
    · subst hc
      have hx := ts_b hc'
      obtain ⟨p, hp, rfl⟩ := okP_nI hx
      have e : sp_support (nI p) F = (0, nI (supN (F p) 10)) := by
        unfold sp_support
        rw [if_pos hx, nI_clamp (by omega)]
      have := hK u'
      rw [e] at this
      refine ⟨1025, q_M_support_L26 hp h' hF (this hR) 1024 0 0 rfl ⟨by omega, fun i hi => ?_⟩⟩
      rw [Nat.zero_testBit]
      constructor
      · intro z; exact absurd z (by decide)
      · rintro (⟨w, hw, _⟩ | ⟨hw, _⟩) <;> omega
  unfold p_M_support
  rw [e_isPlace]
  cases hx : okP x
  · exact brn_t rfl (j true (by rw [hx]; rfl))
  · exact brn_f (by decide) (j false (by rw [hx]; rfl))
/-- whether two tables agree below n -/
def sameT (f g : Nat → Bool) : Nat → Bool
  | 0 => true
  | n + 1 => sameT f g n && (f n == g n)
theorem sameT_iff {f g : Nat → Bool} {n : Nat} : sameT f g n = true ↔ ∀ v : Nat, v < n → f v = g v := by
  induction n with
  | zero => exact ⟨fun _ v hv => absurd hv (by omega), fun _ => rfl⟩
  | succ n ih =>
    rw [sameT, Bool.and_eq_true, ih, beq_iff_eq]
    constructor
    · rintro ⟨h1, h2⟩ v hv
      by_cases hvn : v = n
      · subst hvn; exact h2
      · exact h1 v (by omega)
    · exact fun h => ⟨fun v hv => h v (by omega), h n (by omega)⟩
theorem q_M_alike_L {p q : Nat} (hp : p < 24) (hq : q < 24) (h : VM ad S I b u) (hF : MF F I) {E : Int32 → PS → Prop} (hE : E (bI (sameT (F p) (F q) 1024)) u) : ∀ (d v : Nat), v + d = 1024 → p_M_alike_L34 (ad 0) (nI p) (nI q) E (d + 1) (bI (sameT (F p) (F q) v)) (nI v) u := by
  intro d
  induction d with
  | zero =>
    intro v hv
    obtain rfl : v = 1024 := by omega
    rw [p_M_alike_L34]
    exact pk_le 1024 1024 (fun _ => hE) (fun h9 => absurd h9 (by omega))
  | succ d ih =>
    intro v hv
    rw [p_M_alike_L34]
    refine pk_le 1024 v (fun h9 => absurd h9 (by omega)) (fun _ => ?_)
    have go := ih (v + 1) (by omega)
    unfold p_M_alike_J67 p_M_alike_J68
    cases hs : sameT (F p) (F q) v
    · refine br_t rfl (nm_e ?_)
      rw [sameT, hs] at go
      rw [nI_1]
      exact go
    · refine br_f (by decide) ⟨h.ob, q_M_is h hF hp (by omega) ⟨h.ob, q_M_is h hF hq (by omega) ?_⟩⟩
      rw [sameT, hs] at go
      by_cases hc : F p v = F q v
      · refine brn_t (bI_inj.mpr hc) (nm_e ?_)
        rw [show (F p v == F q v) = true from beq_iff_eq.mpr hc] at go
        rw [nI_1]
        exact go
      · refine brn_f (fun e => hc (bI_inj.mp e)) (nm_e ?_)
        rw [show (F p v == F q v) = false from beq_eq_false_iff_ne.mpr hc] at go
        rw [nI_1]
        exact go
def sp_alike (x y : Int32) (F : Nat → Nat → Bool) : Int32 × Int32 := if okP x && okP y then (0, bI (sameT (F x.toNatClampNeg) (F y.toNatClampNeg) 1024)) else (1, 0)
theorem q_M_alike (h : RM ad b F o t n u) {x y : Int32} {K : Int32 → PS → Prop} (hK : ∀ u' : PS, RM ad b F o (sp_alike x y F).1 n u' → K (sp_alike x y F).2 u') : p_M_alike (ad 0) x y u K := by
  obtain ⟨S, I, h, hF, hq, ht⟩ := h.un
  have j : ∀ c : Bool, c = (!(okP x && okP y)) → p_M_alike_J20 K (ad 0) x y (ad 0) (bI c) u := by
    intro c hc
    refine ⟨h.ob, q_M_rf2 (d := false) h hF hq (fun u' hcd h' => ⟨Or.inl rfl, ?_⟩) (fun u' S' hc' hd' h' hq' h0 hR => ?_)⟩
    · have hx : (okP x && okP y) = false := by subst hc; cases hx : (okP x && okP y); rfl; rw [hx] at hcd; exact absurd hcd (by decide)
      have e : sp_alike x y F = (1, 0) := by
        unfold sp_alike
        rw [hx]; rfl
      have := hK u'
      rw [e] at this
      rw [hc, hx] at h'
      exact this h'
    · subst hc
      have hx := ts_b hc'
      have hx3 := hx
      simp only [Bool.and_eq_true] at hx3
      obtain ⟨p, hp, rfl⟩ := okP_nI hx3.1
      obtain ⟨q, hq2, rfl⟩ := okP_nI hx3.2
      have e : sp_alike (nI p) (nI q) F = (0, bI (sameT (F p) (F q) 1024)) := by
        unfold sp_alike
        rw [if_pos hx, nI_clamp (by omega), nI_clamp (by omega)]
      have := hK u'
      rw [e] at this
      have fin := this hR
      generalize hz : sameT (F p) (F q) 1024 = z at fin
      refine ⟨1025, q_M_alike_L hp hq2 h' hF ?_ 1024 0 rfl⟩
      rw [hz]
      exact ⟨bI_z z, fin⟩
  unfold p_M_alike p_M_alike_J15
  simp only [e_isPlace]
  cases hx : okP x
  · exact br_t rfl (j true (by rw [hx]; rfl))
  · refine br_f (by decide) ?_
    cases hy : okP y
    · exact brn_t rfl (j true (by rw [hx, hy]; rfl))
    · exact brn_f (by decide) (j false (by rw [hx, hy]; rfl))
end REF5
