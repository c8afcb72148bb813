/-! Functions: restrict(), replace() -/
theorem FP.wk {f : Nat → Bool} {m : Nat} {row : Nat → Int64} (h : FP f m row) {w b : Nat} (hw : w < 16) (hk : w &&& m / 64 = w) (hb : b < 64) : WB (row w) b = f (64 * w + b) := by
  have := h.w hw hb
  rw [hk] at this
  exact this
theorem FP.congr {f g : Nat → Bool} {m : Nat} {row : Nat → Int64} (h : FP f m row) (e : ∀ v : Nat, v < 1024 → f v = g v) : FP g m row := ⟨h.1, fun v hv => by rw [← e v hv, ← e _ (and_lt10 hv)]; exact h.2.1 v hv, fun v hv => by rw [← e v hv]; exact h.2.2 v hv⟩
theorem FK.congr {F : Nat → Nat → Bool} {S : Nat → Nat} {I : Nat → Nat → Nat} {L : Nat → Nat → Int64} {p : Nat} {f g : Nat → Bool} (h : FK (upF F p f) S I L) (e : ∀ v : Nat, v < 1024 → f v = g v) : FK (upF F p g) S I L := by
  have q : ∀ j v : Nat, v < 1024 → upF F p f j v = upF F p g j v := fun j v hv => by
    unfold upF
    by_cases c : j = p
    · rw [if_pos c, if_pos c]; exact e v hv
    · rw [if_neg c, if_neg c]
  obtain ⟨h1, h2, h3, h4⟩ := h
  refine ⟨fun j hj => (h1 j hj).congr (q j), h2, h3, fun j hj hs => ?_⟩
  rw [← fnOf_inj.mpr (q j)]
  exact h4 j hj hs
theorem set_d64 (m : Nat) {k : Nat} (c : Bool) (hk : k < 6) : setb m k c / 64 = m / 64 := by
  refine Nat.eq_of_testBit_eq (fun i => ?_)
  rw [tb_d64, tb_setb, if_neg (by omega), tb_d64]
theorem set_d64b (m : Nat) {k : Nat} (c : Bool) (hk : 6 ≤ k) : setb m k c / 64 = setb (m / 64) (k - 6) c := by
  refine Nat.eq_of_testBit_eq (fun i => ?_)
  rw [tb_d64, tb_setb, tb_setb, tb_d64]
  by_cases c : 6 + i = k
  · rw [if_pos c, if_pos (by omega)]
  · rw [if_neg c, if_neg (by omega)]
theorem tb_sub {a b i : Nat} (h : a &&& b = a) (hb : b.testBit i = false) : a.testBit i = false := by
  rw [← h, Nat.testBit_and, hb, Bool.and_false]
theorem NUm.fix {f : Nat → Bool} {m k : Nat} (h : NUm f m) (hk : k < 10) (c : Bool) : NUm (fun v => f (setb v k c)) (setb m k false) := NUm.of (fun x y hx hy hi => by
  refine h.eq (setb_10 c hx hk) (setb_10 c hy hk) (fun i hb => ?_)
  rw [tb_setb, tb_setb]
  by_cases e : i = k
  · rw [if_pos e, if_pos e]
  · rw [if_neg e, if_neg e]
    exact hi i (by rw [tb_setb, if_neg e]; exact hb))
section FU4
variable {L : Nat → Nat → Int64} {E : (Nat → Prop) × (Nat → Option PE)} {ad S : Nat → Nat} {I : Nat → Nat → Nat} {ln : Nat → Nat} {z : Nat × Nat} {F : Nat → Nat → Bool}
theorem q_F_rw_L {q k kept : Nat} {c : Bool} (hq : q < 24) (hk6 : k < 6) (fq : FP (F q) (I 6 q) (L (42 + q))) (hk : kept = I 6 q / 64) {Ex : PS → Prop} (hE : ∀ (u' : PS) (r' : Nat → Int64), VC 69 ad S I ln (va_up L 66 r') E z u' → SPI (fun v => F q (setb v k c)) kept 16 r' → Ex u') : ∀ (d w : Nat) (u : PS) (rr : Nat → Int64), 16 < w + d → w ≤ 16 → (w < 16 → w &&& kept = w) → VC 69 ad S I ln (va_up L 66 rr) E z u → SPI (fun v => F q (setb v k c)) kept w rr → p_F_restrictWithinWords_L39 (bI c) (ad (42 + q)) (ad 66) (tab_ONES k) (nI (2 ^ k)) (lfO kept) Ex d (nI w) u := by
  have hk16 : kept < 16 := by rw [hk]; exact d64_16 fq.1
  intro d
  induction d with
  | zero => intro w u rr h1 h2; exact absurd h1 (by omega)
  | succ d ih =>
    intro w u rr h1 h2 hs' h hr'
    rw [p_F_restrictWithinWords_L39]
    refine pk_le 16 w (fun cc => ?_) (fun cc => ?_)
    · obtain rfl : w = 16 := by omega
      exact hE u rr h hr'
    · have hs'' := hs' cc
      obtain ⟨n1, n2, n3⟩ := nxw_s kept hk16 w cc hs''
      have hA : ∀ b : Nat, b < 64 → WB (L (42 + q) w) b = F q (64 * w + b) := fun b hb => fq.wk cc (by rw [← hk]; exact hs'') hb
      have store : ∀ x : Int64, (∀ b : Nat, b < 64 → WB x b = WB (L (42 + q) w) (setb b k c)) → ∃ u' : PS, x_ls u (ad 66) (nI w) x u' ∧ p_F_restrictWithinWords_J105 (p_F_restrictWithinWords_L39 (bI c) (ad (42 + q)) (ad 66) (tab_ONES k) (nI (2 ^ k)) (lfO kept) Ex d) Ex (bI c) (ad (42 + q)) (ad 66) (tab_ONES k) (nI (2 ^ k)) (lfO kept) (nI w) u' := fun x hx =>
        sp_st h hk16 cc hs'' hr' (fun b hb => by
          rw [hx b hb, hA _ (setb_6 c hb hk6)]
          show _ = F q (setb (64 * w + b) k c)
          rw [wb_set0 c hb hk6]) (fun u' r' h' hr'' => by
          unfold p_F_restrictWithinWords_J105
          refine nm_e ?_
          rw [nxw_e kept hk16 w cc]
          exact ih (nxw kept w) u' r' (by omega) n2 n3 h' hr'')
      refine ⟨_, sp_la h hq cc, fun e => nm_e ?_, fun e => nm_e ?_⟩
      · have : c = false := by
          cases c
          · rfl
          · exact absurd rfl e
        subst this
        exact store _ (fun b hb => w_lo hk6 _ hb)
      · have : c = true := (bI_1 c).mp e
        subst this
        exact store _ (fun b hb => w_hi hk6 _ hb)
theorem q_F_rwords_L {q k kept : Nat} {c : Bool} (hq : q < 24) (hk6 : 6 ≤ k) (hk10 : k < 10) (fq : FP (F q) (I 6 q) (L (42 + q))) (hk : kept = setb (I 6 q / 64) (k - 6) false) {Ex : PS → Prop} (hE : ∀ (u' : PS) (r' : Nat → Int64), VC 69 ad S I ln (va_up L 66 r') E z u' → SPI (fun v => F q (setb v k c)) kept 16 r' → Ex u') : ∀ (d w : Nat) (u : PS) (rr : Nat → Int64), 16 < w + d → w ≤ 16 → (w < 16 → w &&& kept = w) → VC 69 ad S I ln (va_up L 66 rr) E z u → SPI (fun v => F q (setb v k c)) kept w rr → p_F_restrictWords_L32 (ad (42 + q)) (ad 66) (nI ((c.toNat * 2 ^ k &&& I 6 q) / 64)) (lfO kept) Ex d (nI w) u := by
  have hk16 : kept < 16 := by rw [hk]; exact setb_lt (n := 4) false (d64_16 fq.1) (by omega)
  have ksub : ∀ i : Nat, kept.testBit i = true → (I 6 q / 64).testBit i = true ∧ i ≠ k - 6 := fun i hi => by
    rw [hk, tb_setb] at hi
    by_cases e : i = k - 6
    · rw [if_pos e] at hi; exact absurd hi (by decide)
    · rw [if_neg e] at hi; exact ⟨hi, e⟩
  have hadd : ∀ i : Nat, ((c.toNat * 2 ^ k &&& I 6 q) / 64).testBit i = (c && decide (i = k - 6) && (I 6 q / 64).testBit i) := fun i => by
    rw [tb_d64, Nat.testBit_and, tb_d64]
    cases c
    · show ((0 * 2 ^ k).testBit (6 + i) && _) = _
      rw [Nat.zero_mul, Nat.zero_testBit]; rfl
    · show ((1 * 2 ^ k).testBit (6 + i) && _) = _
      rw [Nat.one_mul, Nat.testBit_two_pow, Bool.true_and]
      by_cases e : i = k - 6
      · rw [decide_eq_true e, decide_eq_true (by omega : k = 6 + i)]
      · rw [decide_eq_false e, decide_eq_false (by omega : ¬ k = 6 + i)]
  intro d
  induction d with
  | zero => intro w u rr h1 h2; exact absurd h1 (by omega)
  | succ d ih =>
    intro w u rr h1 h2 hs' h hr'
    rw [p_F_restrictWords_L32]
    refine pk_le 16 w (fun cc => ?_) (fun cc => ?_)
    · obtain rfl : w = 16 := by omega
      exact hE u rr h hr'
    · have hs'' := hs' cc
      obtain ⟨n1, n2, n3⟩ := nxw_s kept hk16 w cc hs''
      have wl : w ||| (c.toNat * 2 ^ k &&& I 6 q) / 64 < 16 := or_lt16 cc (d64_16 (Nat.lt_of_le_of_lt Nat.and_le_right fq.1))
      have ws : (w ||| (c.toNat * 2 ^ k &&& I 6 q) / 64) &&& I 6 q / 64 = w ||| (c.toNat * 2 ^ k &&& I 6 q) / 64 := by
        refine Nat.eq_of_testBit_eq (fun i => ?_)
        rw [Nat.testBit_and, Nat.testBit_or, hadd]
        cases e : w.testBit i
        · cases (I 6 q / 64).testBit i <;> simp
        · rw [(ksub i (and_sub_lt hs'' i e)).1]; simp
      rw [nx_or]
      refine ⟨_, sp_la h hq wl, sp_st h hk16 cc hs'' hr' (fun b hb => ?_) (fun u' r' h' hr'' => nm_e ?_)⟩
      · rw [fq.wk wl ws hb]
        show F q _ = F q (setb (64 * w + b) k c)
        refine fq.2.1.eq (wb_lt wl hb) (setb_10 c (wb_lt cc hb) hk10) (fun i hi => ?_)
        rw [tb_wb _ hb, tb_setb, tb_wb _ hb]
        by_cases e : i < 6
        · rw [if_pos e, if_neg (by omega), if_pos e]
        · rw [if_neg e, if_neg e, Nat.testBit_or, hadd, tb_d64, show 6 + (i - 6) = i by omega, hi, Bool.and_true]
          by_cases e2 : i = k
          · subst e2
            have : w.testBit (i - 6) = false := tb_sub hs'' (by rw [hk, tb_setb, if_pos rfl])
            rw [if_pos rfl, this]; simp
          · rw [if_neg e2, decide_eq_false (by omega : ¬ i - 6 = k - 6)]; simp
      · rw [nxw_e kept hk16 w cc]
        exact ih (nxw kept w) u' r' (by omega) n2 n3 h' hr''
theorem q_F_restrict {u : PS} (h : VC 69 ad S I ln L E z u) (l6 : ln 6 = 24) (ft : FK F S I L) {p q k : Nat} (c : Bool) (hp : p < 24) (hq : q < 24) (hk : k < 10) {K : PS → Prop} (hK : ∀ (u' : PS) (ad' S' : Nat → Nat) (I' : Nat → Nat → Nat) (L' : Nat → Nat → Int64), VC 69 ad' S' I' ln L' E z u' → FK (upF F p (fun v => F q (setb v k c))) S' I' L' → FRF p ad S I ad' S' I' → K u') : p_F_restrict (ad 1) (nI p) (nI q) (nI k) (bI c) u K := by
  have fq := ft.1 q hq
  have m10 := fq.1
  have us10 : setb (I 6 q) k false < 1024 := setb_10 false m10 hk
  have nu := fq.2.1.fix hk c
  have J : ∀ (u1 : PS) (r1 : Nat → Int64), VC 69 ad S I ln (va_up L 66 r1) E z u1 → SPI (fun v => F q (setb v k c)) (setb (I 6 q) k false / 64) 16 r1 → p_F_restrict_J49 K (ad 1) (nI p) (nI (setb (I 6 q) k false)) u1 := fun u1 r1 h1 hs => by
    unfold p_F_restrict_J49
    exact ⟨h1.obF (by decide), q_F_put h1 l6 ft hp (f := fun v => F q (setb v k c)) (FP.mk us10 nu hs) hK⟩
  have r6 := h.ia 6 (by decide) (ii (by decide)) (j := q) (by omega) (by omega)
  unfold p_F_restrict
  refine ⟨_, h.fF (by decide) rfl, _, r6, nm_e ?_⟩
  rw [nI_set0 (by omega) (by omega)]
  refine pk_le 6 k (fun w => ?_) (fun w => ?_)
  · refine ⟨_, h.fF (by decide) rfl, _, r6, h.obF (by decide), ?_⟩
    unfold p_F_restrictWords
    refine ⟨_, h.fF (by decide) rfl, _, h.ra (by decide) hq, _, h.fF (by decide) rfl, nm_e ?_⟩
    unfold p_F_leftOut
    have e0 : bI c = nI c.toNat := by cases c <;> rfl
    have pk : 2 ^ k < 2 ^ 10 := Nat.pow_lt_pow_right (by decide) hk
    rw [e0, nI_shl (by omega), nx_and, show (6 : Int32) = nI 6 from rfl, nI_shr (Nat.lt_of_le_of_lt Nat.and_le_right (by omega)) (by decide), nI_shr (by omega) (by decide)]
    exact ⟨17, q_F_rwords_L (c := c) (k := k) (kept := setb (I 6 q) k false / 64) hq w hk fq (set_d64b _ _ w) (fun u1 r1 h1 hs => J u1 r1 h1 hs) 17 0 u (L 66) (by omega) (by omega) (fun _ => Nat.zero_and _) (by rw [up_id]; exact h) (SPI.nil _ _ _)⟩
  · refine ⟨h.obF (by decide), ?_⟩
    unfold p_F_restrictWithinWords
    refine ⟨_, h.fF (by decide) rfl, _, h.ra (by decide) hq, _, h.fF (by decide) rfl, vp_in_nI w (by decide), nm_e (nm_e ⟨h.obF (by decide), q_F_kept h l6 hq m10 ?_⟩)⟩
    unfold p_F_leftOut
    rw [nI_clamp (by omega), nI_pw (by omega)]
    exact ⟨17, q_F_rw_L hq w fq rfl (fun u1 r1 h1 hs => J u1 r1 h1 (by rw [set_d64 _ _ w]; exact hs)) 17 0 u (L 66) (by omega) (by omega) (fun _ => Nat.zero_and _) (by rw [up_id]; exact h) (SPI.nil _ _ _)⟩
theorem q_F_pw_L {q r k kept : Nat} (hq : q < 24) (hr : r < 24) (hk6 : k < 6) (fq : FP (F q) (I 6 q) (L (42 + q))) (fr : FP (F r) (I 6 r) (L (42 + r))) (hk16 : kept < 16) {Ex : PS → Prop} (hE : ∀ (u' : PS) (r' : Nat → Int64), VC 69 ad S I ln (va_up L 66 r') E z u' → SPI (fun v => F q (setb v k (F r v))) kept 16 r' → Ex u') : ∀ (d w : Nat) (u : PS) (rr : Nat → Int64), 16 < w + d → w ≤ 16 → (w < 16 → w &&& kept = w) → VC 69 ad S I ln (va_up L 66 rr) E z u → SPI (fun v => F q (setb v k (F r v))) kept w rr → p_F_replaceWithinWords_L61 (ad (42 + q)) (ad (42 + r)) (ad 66) (nI (I 6 q / 64)) (nI (I 6 r / 64)) (lfO kept) (tab_ONES k) (nI (2 ^ k)) Ex d (nI w) u := by
  intro d
  induction d with
  | zero => intro w u rr h1 h2; exact absurd h1 (by omega)
  | succ d ih =>
    intro w u rr h1 h2 hs' h hr'
    rw [p_F_replaceWithinWords_L61]
    refine pk_le 16 w (fun cc => ?_) (fun cc => ?_)
    · obtain rfl : w = 16 := by omega
      exact hE u rr h hr'
    · have hs'' := hs' cc
      obtain ⟨n1, n2, n3⟩ := nxw_s kept hk16 w cc hs''
      rw [nx_and, nx_and]
      refine ⟨_, sp_la h hr (and_lt16 cc), _, sp_la h hq (and_lt16 cc), nm_e ⟨_, sp_la h hq (and_lt16 cc), nm_e (sp_st h hk16 cc hs'' hr' (fun b hb => ?_) (fun u' r' h' hr'' => nm_e ?_))⟩⟩
      · rw [w_or, w_and, w_and (_ ^^^ _) _ b, w_not _ hb, w_lo hk6 _ hb, w_hi hk6 _ hb, fq.w cc (setb_6 _ hb hk6), fq.w cc (setb_6 _ hb hk6), fr.w cc hb]
        show _ = F q (setb (64 * w + b) k (F r (64 * w + b)))
        rw [wb_set0 _ hb hk6]
        cases F r (64 * w + b) <;> simp
      · rw [nxw_e kept hk16 w cc]
        exact ih (nxw kept w) u' r' (by omega) n2 n3 h' hr''
theorem q_F_pwords_L {q r k kept : Nat} (hq : q < 24) (hr : r < 24) (hk6 : 6 ≤ k) (hk10 : k < 10) (hmk : (I 6 q).testBit k = true) (fq : FP (F q) (I 6 q) (L (42 + q))) (fr : FP (F r) (I 6 r) (L (42 + r))) (hk16 : kept < 16) (hks : ∀ i : Nat, i ≠ k - 6 → (I 6 q / 64).testBit i = true → kept.testBit i = true) {Ex : PS → Prop} (hE : ∀ (u' : PS) (r' : Nat → Int64), VC 69 ad S I ln (va_up L 66 r') E z u' → SPI (fun v => F q (setb v k (F r v))) kept 16 r' → Ex u') : ∀ (d w : Nat) (u : PS) (rr : Nat → Int64), 16 < w + d → w ≤ 16 → (w < 16 → w &&& kept = w) → VC 69 ad S I ln (va_up L 66 rr) E z u → SPI (fun v => F q (setb v k (F r v))) kept w rr → p_F_replaceWords_L53 (nI (2 ^ (k - 6))) (ad (42 + q)) (ad (42 + r)) (ad 66) (nI (setb (I 6 q / 64) (k - 6) false)) (nI (I 6 r / 64)) (lfO kept) Ex d (nI w) u := by
  have p16 : 2 ^ (k - 6) < 2 ^ 4 := Nat.pow_lt_pow_right (by decide) (by omega)
  have hmk' : (I 6 q / 64).testBit (k - 6) = true := by rw [tb_d64, show 6 + (k - 6) = k by omega]; exact hmk
  have s16 : setb (I 6 q / 64) (k - 6) false < 16 := setb_lt (n := 4) false (d64_16 fq.1) (by omega)
  intro d
  induction d with
  | zero => intro w u rr h1 h2; exact absurd h1 (by omega)
  | succ d ih =>
    intro w u rr h1 h2 hs' h hr'
    rw [p_F_replaceWords_L53]
    refine pk_le 16 w (fun cc => ?_) (fun cc => ?_)
    · obtain rfl : w = 16 := by omega
      exact hE u rr h hr'
    · have hs'' := hs' cc
      obtain ⟨n1, n2, n3⟩ := nxw_s kept hk16 w cc hs''
      have y0 : w &&& setb (I 6 q / 64) (k - 6) false < 16 := and_lt16 cc
      have y1 : (w &&& setb (I 6 q / 64) (k - 6) false) ||| 2 ^ (k - 6) < 16 := or_lt16 y0 p16
      have t0 : ∀ i : Nat, (w &&& setb (I 6 q / 64) (k - 6) false).testBit i = if i = k - 6 then false else w.testBit i && (I 6 q / 64).testBit i := fun i => by
        rw [Nat.testBit_and, tb_setb]
        by_cases e : i = k - 6
        · rw [if_pos e, if_pos e, Bool.and_false]
        · rw [if_neg e, if_neg e]
      have t1 : ∀ i : Nat, ((w &&& setb (I 6 q / 64) (k - 6) false) ||| 2 ^ (k - 6)).testBit i = if i = k - 6 then true else w.testBit i && (I 6 q / 64).testBit i := fun i => by
        rw [Nat.testBit_or, t0, Nat.testBit_two_pow]
        by_cases e : i = k - 6
        · rw [if_pos e, if_pos e, decide_eq_true e.symm]; rfl
        · rw [if_neg e, if_neg e, decide_eq_false (fun q => e q.symm), Bool.or_false]
      have rd : ∀ (y : Nat) (c : Bool), y < 16 → (∀ i : Nat, y.testBit i = if i = k - 6 then c else w.testBit i && (I 6 q / 64).testBit i) → ∀ b : Nat, b < 64 → WB (L (42 + q) y) b = F q (setb (64 * w + b) k c) := fun y c hy ht b hb => by
        rw [fq.wk hy ?_ hb]
        · refine fq.2.1.eq (wb_lt hy hb) (setb_10 c (wb_lt cc hb) hk10) (fun i hi => ?_)
          rw [tb_wb _ hb, tb_setb, tb_wb _ hb]
          by_cases e : i < 6
          · rw [if_pos e, if_neg (by omega), if_pos e]
          · rw [if_neg e, if_neg e, ht, tb_d64, show 6 + (i - 6) = i by omega, hi, Bool.and_true]
            by_cases e2 : i = k
            · rw [if_pos e2, if_pos (by omega)]
            · rw [if_neg e2, if_neg (by omega)]
        · refine Nat.eq_of_testBit_eq (fun i => ?_)
          rw [Nat.testBit_and, ht]
          by_cases e : i = k - 6
          · subst e; rw [if_pos rfl, hmk', Bool.and_true]
          · rw [if_neg e]; cases w.testBit i <;> cases (I 6 q / 64).testBit i <;> rfl
      rw [nx_and, nx_and, nx_or]
      refine ⟨_, sp_la h hr (and_lt16 cc), _, sp_la h hq y1, _, sp_la h hq y0, sp_st h hk16 cc hs'' hr' (fun b hb => ?_) (fun u' r' h' hr'' => nm_e ?_)⟩
      · rw [w_or, w_and, w_and, w_not _ hb, rd _ true y1 t1 b hb, rd _ false y0 t0 b hb, fr.w cc hb]
        show _ = F q (setb (64 * w + b) k (F r (64 * w + b)))
        cases F r (64 * w + b) <;> simp
      · rw [nxw_e kept hk16 w cc]
        exact ih (nxw kept w) u' r' (by omega) n2 n3 h' hr''
theorem q_F_replace {u : PS} (h : VC 69 ad S I ln L E z u) (l6 : ln 6 = 24) (ft : FK F S I L) {p q k r : Nat} (hp : p < 24) (hq : q < 24) (hk : k < 10) (hr : r < 24) {K : PS → Prop} (hK : ∀ (u' : PS) (ad' S' : Nat → Nat) (I' : Nat → Nat → Nat) (L' : Nat → Nat → Int64), VC 69 ad' S' I' ln L' E z u' → FK (upF F p (fun v => F q (setb v k (F r v)))) S' I' L' → FRF p ad S I ad' S' I' → K u') : p_F_replace (ad 1) (nI p) (nI q) (nI k) (nI r) u K := by
  have fq := ft.1 q hq
  have fr := ft.1 r hr
  have m10 := fq.1
  have r6 := h.ia 6 (by decide) (ii (by decide)) (j := q) (by omega) (by omega)
  have r6' := h.ia 6 (by decide) (ii (by decide)) (j := r) (by omega) (by omega)
  unfold p_F_replace
  refine ⟨_, h.fF (by decide) rfl, _, r6, ?_⟩
  rw [tb_nI (by omega) (by omega)]
  refine ⟨fun w => ?_, fun w => ?_⟩
  · have hmk : (I 6 q).testBit k = true := by
      cases e : (I 6 q).testBit k
      · rw [e] at w; exact absurd rfl w
      · rfl
    have us10 : setb (I 6 q) k false ||| I 6 r < 1024 := or_lt10 (setb_10 false m10 hk) fr.1
    have nu : NUm (fun v => F q (setb v k (F r v))) (setb (I 6 q) k false ||| I 6 r) := NUm.of (fun x y hx hy hi => by
      have e2 : F r x = F r y := fr.2.1.eq hx hy (fun i hb => hi i (by rw [Nat.testBit_or, hb, Bool.or_true]))
      show F q (setb x k (F r x)) = F q (setb y k (F r y))
      rw [e2]
      exact ((fq.2.1.fix hk (F r y)).mono (fun i hb => by rw [Nat.testBit_or, hb]; rfl)).eq hx hy hi)
    have J : ∀ (u1 : PS) (r1 : Nat → Int64), VC 69 ad S I ln (va_up L 66 r1) E z u1 → SPI (fun v => F q (setb v k (F r v))) ((setb (I 6 q) k false ||| I 6 r) / 64) 16 r1 → p_F_replace_J76 K (ad 1) (nI p) (nI (setb (I 6 q) k false ||| I 6 r)) u1 := fun u1 r1 h1 hs => by
      unfold p_F_replace_J76
      exact ⟨h1.obF (by decide), q_F_put h1 l6 ft hp (f := fun v => F q (setb v k (F r v))) (FP.mk us10 nu hs) hK⟩
    refine ⟨_, h.fF (by decide) rfl, _, r6, _, h.fF (by decide) rfl, _, r6', nm_e ?_⟩
    rw [nI_set0 (by omega) (by omega), nx_or]
    refine pk_le 6 k (fun w6 => ?_) (fun w6 => ?_)
    · refine ⟨h.obF (by decide), ?_⟩
      unfold p_F_replaceWords
      refine ⟨_, h.fF (by decide) rfl, _, h.ra (by decide) hq, _, h.fF (by decide) rfl, _, h.ra (by decide) hr, _, h.fF (by decide) rfl, h.obF (by decide), q_F_kept h l6 hq m10 (nm_e ⟨h.obF (by decide), q_F_kept h l6 hr fr.1 ?_⟩)⟩
      unfold p_F_leftOut
      rw [show (6 : Int32) = nI 6 from rfl, nI_shr (by omega) (by decide), pk_sub w6, nI_set0 (by omega) (by omega), nI_pw (by omega)]
      refine ⟨17, q_F_pwords_L (kept := (setb (I 6 q) k false ||| I 6 r) / 64) hq hr w6 hk hmk fq fr (d64_16 us10) (fun i hi hb => ?_) (fun u1 r1 h1 hs => J u1 r1 h1 hs) 17 0 u (L 66) (by omega) (by omega) (fun _ => Nat.zero_and _) (by rw [up_id]; exact h) (SPI.nil _ _ _)⟩
      rw [or_d64, set_d64b _ _ w6, Nat.testBit_or, tb_setb, if_neg hi, hb]; rfl
    · refine ⟨h.obF (by decide), ?_⟩
      unfold p_F_replaceWithinWords
      refine ⟨_, h.fF (by decide) rfl, _, h.ra (by decide) hq, _, h.fF (by decide) rfl, _, h.ra (by decide) hr, _, h.fF (by decide) rfl, h.obF (by decide), q_F_kept h l6 hq m10 ⟨h.obF (by decide), q_F_kept h l6 hr fr.1 ?_⟩⟩
      unfold p_F_leftOut
      refine ⟨vp_in_nI w6 (by decide), nm_e (nm_e ?_)⟩
      rw [nI_clamp (by omega), nI_pw (by omega), nx_or]
      exact ⟨17, q_F_pw_L hq hr w6 fq fr (or_lt16 (d64_16 m10) (d64_16 fr.1)) (fun u1 r1 h1 hs => J u1 r1 h1 (by rw [or_d64, set_d64 _ _ w6]; exact hs)) 17 0 u (L 66) (by omega) (by omega) (fun _ => Nat.zero_and _) (by rw [up_id]; exact h) (SPI.nil _ _ _)⟩
  · have hmk : (I 6 q).testBit k = false := (bI_0 _).mp w
    refine ⟨h.obF (by decide), ?_⟩
    refine q_F_restrict h l6 ft false hp hq hk (fun u1 ad1 S1 I1 L1 h1 ft1 fr1 => hK u1 ad1 S1 I1 L1 h1 (ft1.congr (fun v hv => ?_)) fr1)
    refine fq.2.1.eq (setb_10 _ hv hk) (setb_10 _ hv hk) (fun i hi => ?_)
    have e : i ≠ k := fun e => by rw [e, hmk] at hi; exact absurd hi (by decide)
    rw [tb_setb, tb_setb, if_neg e, if_neg e]
end FU4
