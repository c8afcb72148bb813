/-! Functions: what the rows hold -/
def NUm (f : Nat → Bool) (m : Nat) : Prop := ∀ v : Nat, v < 1024 → f v = f (v &&& m)
def FP (f : Nat → Bool) (m : Nat) (row : Nat → Int64) : Prop := m < 1024 ∧ NUm f m ∧ ∀ v : Nat, v < 1024 → f v = WB (row (v / 64 &&& m / 64)) (v % 64)
theorem and_lt10 {v m : Nat} (hv : v < 1024) : v &&& m < 1024 := Nat.lt_of_le_of_lt Nat.and_le_left hv
theorem and_lt16 {v m : Nat} (hv : v < 16) : v &&& m < 16 := Nat.lt_of_le_of_lt Nat.and_le_left hv
theorem NUm.mono {f : Nat → Bool} {m m' : Nat} (h : NUm f m) (hm : ∀ i : Nat, m.testBit i = true → m'.testBit i = true) : NUm f m' := fun v hv => by
  have e : (v &&& m') &&& m = v &&& m := by
    refine Nat.eq_of_testBit_eq (fun i => ?_)
    rw [Nat.testBit_and, Nat.testBit_and, Nat.testBit_and]
    cases c : m.testBit i
    · simp
    · rw [hm i c]; simp
  rw [h (v &&& m') (and_lt10 hv), e]
  exact h v hv
theorem NUm.eq {f : Nat → Bool} {m x y : Nat} (h : NUm f m) (hx : x < 1024) (hy : y < 1024) (he : ∀ i : Nat, m.testBit i = true → x.testBit i = y.testBit i) : f x = f y := by
  have e : x &&& m = y &&& m := by
    refine Nat.eq_of_testBit_eq (fun i => ?_)
    rw [Nat.testBit_and, Nat.testBit_and]
    cases c : m.testBit i
    · simp
    · rw [he i c]
  rw [h x hx, h y hy, e]
theorem NUm.of {f : Nat → Bool} {m : Nat} (h : ∀ x y : Nat, x < 1024 → y < 1024 → (∀ i : Nat, m.testBit i = true → x.testBit i = y.testBit i) → f x = f y) : NUm f m := fun v hv => h v _ hv (and_lt10 hv) (fun i hi => by rw [Nat.testBit_and, hi, Bool.and_true])
theorem FP.w {f : Nat → Bool} {m : Nat} {row : Nat → Int64} (h : FP f m row) {w b : Nat} (hw : w < 16) (hb : b < 64) : WB (row (w &&& m / 64)) b = f (64 * w + b) := by
  rw [h.2.2 _ (wb_lt hw hb), show (64 * w + b) / 64 = w by omega, show (64 * w + b) % 64 = b by omega]
/-- words that are kept for the inputs mw -/
def SPI (f : Nat → Bool) (kept w : Nat) (r : Nat → Int64) : Prop := ∀ x : Nat, x < w → x &&& kept = x → ∀ b : Nat, b < 64 → WB (r x) b = f (64 * x + b)
theorem FP.mk {f : Nat → Bool} {m : Nat} {row : Nat → Int64} (hm : m < 1024) (h2 : NUm f m) (h3 : SPI f (m / 64) 16 row) : FP f m row := by
  refine ⟨hm, h2, fun v hv => ?_⟩
  have hw : v / 64 &&& m / 64 < 16 := and_lt16 (by omega)
  have hb : v % 64 < 64 := by omega
  rw [h3 _ hw (by rw [Nat.and_assoc, Nat.and_self]) _ hb]
  refine h2.eq hv (wb_lt hw hb) (fun i hi => ?_)
  rw [tb_wb _ hb, tb_m64]
  by_cases c : i < 6
  · rw [if_pos c, decide_eq_true c, Bool.true_and]
  · rw [if_neg c, Nat.testBit_and, tb_d64, tb_d64, show 6 + (i - 6) = i by omega, hi, Bool.and_true]
section FU1
variable {L : Nat → Nat → Int64} {E : (Nat → Prop) × (Nat → Option PE)} {ad S : Nat → Nat} {I : Nat → Nat → Nat} {ln : Nat → Nat} {z : Nat × Nat} {u : PS}
theorem sp_st {kept w : Nat} {r : Nat → Int64} {f : Nat → Bool} (h : VC 69 ad S I ln (va_up L 66 r) E z u) (hk : kept < 16) (hw : w < 16) (hs : w &&& kept = w) (hr : SPI f kept w r) {x : Int64} (hx : ∀ b : Nat, b < 64 → WB x b = f (64 * w + b)) {P : PS → Prop} (hP : ∀ (u' : PS) (r' : Nat → Int64), VC 69 ad S I ln (va_up L 66 r') E z u' → SPI f kept (nxw kept w) r' → P u') : ∃ u' : PS, x_ls u (ad 66) (nI w) x u' ∧ P u' := by
  obtain ⟨u', s1, h1⟩ := h.lsx (by decide) 66 (by decide) hw x
  rw [up_eq, bx_uu] at h1
  refine ⟨u', s1, hP u' _ h1 (fun y hy hyk b hb => ?_)⟩
  by_cases c : y = w
  · subst c; rw [pk_uLs]; exact hx b hb
  · have := nxw_g kept hk w hw hs y hy hyk
    rw [pk_uLn c]; exact hr y (by omega) hyk b hb
/-- the rows of functions while the spare one is written -/
theorem sp_la {r : Nat → Int64} (h : VC 69 ad S I ln (va_up L 66 r) E z u) {q w : Nat} (hq : q < 24) (hw : w < 16) : x_la u (ad (42 + q)) (nI w) (L (42 + q) w) := by
  have := h.la (by decide) (42 + q) (by omega) hw
  rw [up_ne _ _ (by omega)] at this
  exact this
theorem q_F_kept (h : VC 69 ad S I ln L E z u) (l6 : ln 6 = 24) {p : Nat} (hp : p < 24) (hm : I 6 p < 1024) {K : Int32 → PS → Prop} (hK : K (nI (I 6 p / 64)) u) : p_F_keptWords (ad 1) (nI p) u K := by
  unfold p_F_keptWords
  refine ⟨_, h.fF (by decide) rfl, _, h.ia 6 (by decide) (ii (by decide)) (j := p) (by omega) (by omega), ?_⟩
  rw [show (6 : Int32) = nI 6 from rfl, nI_shr (by omega) (by decide)]
  exact hK
theorem nx_not {a k : Nat} (ha : a < 2 ^ 32) : nI a &&& (nI k ^^^ (-1 : Int32)) = nI (a &&& (k % 2 ^ 32 ^^^ (2 ^ 32 - 1))) := by
  rw [nI_m1, ← nI_mod k, nx_xor, nx_and]
/-- a row and the spare one, with what is used -/
theorem q_F_putSpare {r : Nat → Int64} (h : VC 69 ad S I ln (va_up L 66 r) E z u) (l6 : ln 6 = 24) (h0 : S 0 < 2 ^ 24) {p us : Nat} (hp : p < 24) {K : PS → Prop} (hK : ∀ (u' : PS) (ad' : Nat → Nat), VC 69 ad' (va_up S 0 (setb (S 0) p false)) (va_up I 6 (va_up (I 6) p us)) ln (va_up (va_up L (42 + p) r) 66 (L (42 + p))) E z u' → (∀ i : Nat, i < 42 ∨ 67 ≤ i → ad' i = ad i) → K u') : p_F_putSpare (ad 1) (nI p) (nI us) u K := by
  unfold p_F_putSpare
  obtain ⟨u1, u2, s1, s2, h2⟩ := h.swp hp
  have e1 : ∀ i : Nat, i < 42 ∨ 67 ≤ i → va_up (va_up ad (42 + p) (ad 66)) 66 (ad (42 + p)) i = ad i := fun i hi => by rw [up_ne _ _ (by omega), up_ne _ _ (by omega)]
  have e2 : va_up (va_up (va_up L 66 r) (42 + p) (va_up L 66 r 66)) 66 (va_up L 66 r (42 + p)) = va_up (va_up L (42 + p) r) 66 (L (42 + p)) := by
    funext i
    rw [up_eq, up_ne _ _ (show 42 + p ≠ 66 by omega)]
    by_cases c : i = 66
    · subst c; rw [up_eq, up_eq]
    · rw [up_ne _ _ c, up_ne _ _ c]
      by_cases d : i = 42 + p
      · subst d; rw [up_eq, up_eq]
      · rw [up_ne _ _ d, up_ne _ _ d, up_ne _ _ c]
  rw [e2] at h2
  generalize hg : va_up (va_up ad (42 + p) (ad 66)) 66 (ad (42 + p)) = ad' at *
  obtain ⟨u3, s3, h3⟩ := h2.isx 6 (by decide) (ii (by decide)) (j := p) (by omega) (by omega) us
  obtain ⟨u4, s4, h4⟩ := h3.sF (by decide) 2 0 (setb (S 0) p false) (by decide) rfl rfl rfl rfl
  have a1 : ad' 1 = ad 1 := e1 1 (by omega)
  refine ⟨_, h.fF (by decide) rfl, _, h.ra (by decide) hp, _, h.fF (by decide) rfl, _, h.fF (by decide) rfl, u1, s1, u2, s2, ?_⟩
  rw [← a1]
  refine ⟨_, h2.fF (by decide) rfl, u3, s3, _, h3.fF (by decide) rfl, u4, ?_, hK u4 ad' h4 e1⟩
  rw [nI_set0 (by omega) (by omega)]
  exact s4
def brd (us : Nat) : Bool := decide (us &&& (us - 1) ≠ 0)
theorem q_F_beSure (h : VC 69 ad S I ln L E z u) (l6 : ln 6 = 24) (h0 : S 0 < 2 ^ 24) (h1 : S 1 < 2 ^ 24) {p us : Nat} (hp : p < 24) (hu : us < 1024) {K : PS → Prop} (hK : ∀ (u' : PS), VC 69 ad (va_up (va_up S 0 (setb (S 0) p true)) 1 (setb (S 1) p (brd us))) (va_up I 6 (va_up (I 6) p us)) ln L E z u' → K u') : p_F_beSure (ad 1) (nI p) (nI us) u K := by
  unfold p_F_beSure
  obtain ⟨u3, s3, h3⟩ := h.isx 6 (by decide) (ii (by decide)) (j := p) (by omega) (by omega) us
  obtain ⟨u4, s4, h4⟩ := h3.sF (by decide) 2 0 (setb (S 0) p true) (by decide) rfl rfl rfl rfl
  have s4' : x_pv u3 (ad 1) 2 2 (.int (nI (S 0) ||| ((1 : Int32) <<< (nI p &&& 31)))) u4 := by
    rw [nI_set1 (by omega)]; exact s4
  have key : nI us &&& (nI us - (1 : Int32)) = 0 ↔ brd us = false := by
    by_cases c : us = 0
    · subst c; exact ⟨fun _ => by decide, fun _ => by decide⟩
    · rw [show (1 : Int32) = nI 1 from rfl, pk_sub (by omega), nx_and, nI_0I (Nat.lt_of_le_of_lt Nat.and_le_left (by omega))]
      unfold brd
      simp
  refine ⟨_, h.fF (by decide) rfl, u3, s3, _, h3.fF (by decide) rfl, u4, s4', fun w => ?_, fun w => ?_⟩
  · have hb : brd us = true := by
      cases hb : brd us
      · exact absurd (key.mpr hb) w
      · rfl
    obtain ⟨u5, s5, h5⟩ := h4.sF (by decide) 3 1 (setb (S 1) p true) (by decide) rfl rfl rfl rfl
    refine ⟨_, h4.fF (by decide) rfl, ?_⟩
    unfold p_F_beSure_J49
    refine ⟨u5, ?_, hK u5 (by rw [hb]; exact h5)⟩
    rw [up_ne _ _ (by decide), nI_set1 (by omega)]
    exact s5
  · have hb := key.mp w
    obtain ⟨u5, s5, h5⟩ := h4.sF (by decide) 3 1 (setb (S 1) p false) (by decide) rfl rfl rfl rfl
    refine ⟨_, h4.fF (by decide) rfl, ?_⟩
    unfold p_F_beSure_J49
    refine ⟨u5, ?_, hK u5 (by rw [hb]; exact h5)⟩
    rw [up_ne _ _ (by decide), nI_set0 (by omega) (by omega)]
    exact s5
end FU1
