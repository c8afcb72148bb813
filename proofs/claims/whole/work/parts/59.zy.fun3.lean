/-! Functions: join(), select() -/
theorem or_d64 (a b : Nat) : (a ||| b) / 64 = a / 64 ||| b / 64 := by
  refine Nat.eq_of_testBit_eq (fun i => ?_)
  rw [tb_d64, Nat.testBit_or, Nat.testBit_or, tb_d64, tb_d64]
theorem and_d64 (a b : Nat) : (a &&& b) / 64 = a / 64 &&& b / 64 := by
  refine Nat.eq_of_testBit_eq (fun i => ?_)
  rw [tb_d64, Nat.testBit_and, Nat.testBit_and, tb_d64, tb_d64]
theorem or_lt10 {a b : Nat} (ha : a < 1024) (hb : b < 1024) : a ||| b < 1024 := Nat.or_lt_two_pow (n := 10) ha hb
theorem or_lt16 {a b : Nat} (ha : a < 16) (hb : b < 16) : a ||| b < 16 := Nat.or_lt_two_pow (n := 4) ha hb
theorem d64_16 {a : Nat} (ha : a < 1024) : a / 64 < 16 := by omega
section FU3
variable {L : Nat → Nat → Int64} {E : (Nat → Prop) × (Nat → Option PE)} {ad S : Nat → Nat} {I : Nat → Nat → Nat} {ln : Nat → Nat} {z : Nat × Nat} {F : Nat → Nat → Bool}
theorem q_F_join_L {q r kd kept : Nat} {x1 x3 x4 : Int32} (hq : q < 24) (hr : r < 24) (hkd : kd < 6) (fq : FP (F q) (I 6 q) (L (42 + q))) (fr : FP (F r) (I 6 r) (L (42 + r))) (hk : kept < 16) {Ex : PS → Prop} (hE : ∀ (u' : PS) (r' : Nat → Int64), VC 69 ad S I ln (va_up L 66 r') E z u' → SPI (fun v => two kd (F q v) (F r v)) kept 16 r' → Ex u') : ∀ (d w : Nat) (u : PS) (rr : Nat → Int64), 16 < w + d → w ≤ 16 → (w < 16 → w &&& kept = w) → VC 69 ad S I ln (va_up L 66 rr) E z u → SPI (fun v => two kd (F q v) (F r v)) kept w rr → p_F_join_L51 (ad 1) x1 (nI kd) x3 x4 (ad (42 + q)) (ad (42 + r)) (ad 66) (nI (I 6 q / 64)) (nI (I 6 r / 64)) (lfO kept) Ex d (nI w) u := by
  intro d
  induction d with
  | zero => intro w u rr h1 h2; exact absurd h1 (by omega)
  | succ d ih =>
    intro w u rr h1 h2 hs h hr'
    rw [p_F_join_L51]
    refine pk_le 16 w (fun c => ?_) (fun c => ?_)
    · obtain rfl : w = 16 := by omega
      exact hE u rr h hr'
    · have hs' := hs c
      obtain ⟨n1, n2, n3⟩ := nxw_s kept hk w c hs'
      have store : ∀ x : Int64, (∀ b : Nat, b < 64 → WB x b = two kd (F q (64 * w + b)) (F r (64 * w + b))) → ∃ u' : PS, x_ls u (ad 66) (nI w) x u' ∧ p_F_join_J203 (p_F_join_L51 (ad 1) x1 (nI kd) x3 x4 (ad (42 + q)) (ad (42 + r)) (ad 66) (nI (I 6 q / 64)) (nI (I 6 r / 64)) (lfO kept) Ex d) Ex (ad 1) x1 (nI kd) x3 x4 (ad (42 + q)) (ad (42 + r)) (ad 66) (nI (I 6 q / 64)) (nI (I 6 r / 64)) (lfO kept) (nI w) u' := fun x hx =>
        sp_st h hk c hs' hr' hx (fun u' r' h' hr'' => by
          unfold p_F_join_J203
          refine nm_e ?_
          rw [nxw_e kept hk w c]
          exact ih (nxw kept w) u' r' (by omega) n2 n3 h' hr'')
      have hA : ∀ b : Nat, b < 64 → WB (L (42 + q) (w &&& I 6 q / 64)) b = F q (64 * w + b) := fun b hb => fq.w c hb
      have hB : ∀ b : Nat, b < 64 → WB (L (42 + r) (w &&& I 6 r / 64)) b = F r (64 * w + b) := fun b hb => fr.w c hb
      rw [nx_and, nx_and]
      refine ⟨_, sp_la h hq (and_lt16 c), _, sp_la h hr (and_lt16 c), fun e => ?_, fun e => ?_, fun e => ?_, fun e => ?_, fun e => ?_, fun e => ?_, fun a0 a1 a2 a3 a4 a5 => ?_⟩
      · refine store _ (fun b hb => ?_)
        obtain rfl : kd = 0 := (nI_eqI (b := 0) (by omega) (by decide)).mp e
        rw [w_and, hA b hb, hB b hb]; rfl
      · refine store _ (fun b hb => ?_)
        obtain rfl : kd = 1 := (nI_eqI (b := 1) (by omega) (by decide)).mp e
        rw [w_or, hA b hb, hB b hb]; rfl
      · refine store _ (fun b hb => ?_)
        obtain rfl : kd = 2 := (nI_eqI (b := 2) (by omega) (by decide)).mp e
        rw [w_xor, hA b hb, hB b hb]
        cases F q (64 * w + b) <;> cases F r (64 * w + b) <;> rfl
      · refine store _ (fun b hb => ?_)
        obtain rfl : kd = 3 := (nI_eqI (b := 3) (by omega) (by decide)).mp e
        rw [w_or, w_not _ hb, hA b hb, hB b hb]; rfl
      · refine store _ (fun b hb => ?_)
        obtain rfl : kd = 4 := (nI_eqI (b := 4) (by omega) (by decide)).mp e
        rw [w_not _ hb, w_xor, hA b hb, hB b hb]
        cases F q (64 * w + b) <;> cases F r (64 * w + b) <;> rfl
      · refine store _ (fun b hb => ?_)
        obtain rfl : kd = 5 := (nI_eqI (b := 5) (by omega) (by decide)).mp e
        rw [w_and, w_not _ hb, hA b hb, hB b hb]; rfl
      · exfalso
        rcases (by omega : kd = 0 ∨ kd = 1 ∨ kd = 2 ∨ kd = 3 ∨ kd = 4 ∨ kd = 5) with e | e | e | e | e | e
        · exact absurd (by rw [e]; rfl) a0
        · exact absurd (by rw [e]; rfl) a1
        · exact absurd (by rw [e]; rfl) a2
        · exact absurd (by rw [e]; rfl) a3
        · exact absurd (by rw [e]; rfl) a4
        · exact absurd (by rw [e]; rfl) a5
theorem SPI.nil (f : Nat → Bool) (kept : Nat) (r : Nat → Int64) : SPI f kept 0 r := fun y hy => absurd hy (by omega)
theorem q_F_join {u : PS} (h : VC 69 ad S I ln L E z u) (l6 : ln 6 = 24) (ft : FK F S I L) {p q r kd : Nat} (hp : p < 24) (hq : q < 24) (hr : r < 24) (hkd : kd < 6) {K : PS → Prop} (hK : ∀ (u' : PS) (ad' S' : Nat → Nat) (I' : Nat → Nat → Nat) (L' : Nat → Nat → Int64), VC 69 ad' S' I' ln L' E z u' → FK (upF F p (fun v => two kd (F q v) (F r v))) S' I' L' → FRF p ad S I ad' S' I' → K u') : p_F_join (ad 1) (nI p) (nI kd) (nI q) (nI r) u K := by
  have fq := ft.1 q hq
  have fr := ft.1 r hr
  have kl : I 6 q / 64 ||| I 6 r / 64 < 16 := or_lt16 (d64_16 fq.1) (d64_16 fr.1)
  unfold p_F_join
  refine ⟨_, h.fF (by decide) rfl, _, h.ra (by decide) hq, _, h.fF (by decide) rfl, _, h.ra (by decide) hr, _, h.fF (by decide) rfl, h.obF (by decide), q_F_kept h l6 hq fq.1 ⟨h.obF (by decide), q_F_kept h l6 hr fr.1 ?_⟩⟩
  unfold p_F_leftOut
  rw [nx_or]
  refine ⟨17, q_F_join_L hq hr hkd fq fr kl (fun u1 r1 h1 hs => ?_) 17 0 u (L 66) (by omega) (by omega) (fun _ => Nat.zero_and _) (by rw [up_id]; exact h) (SPI.nil _ _ _)⟩
  unfold p_F_join_J220
  refine ⟨_, h1.fF (by decide) rfl, _, h1.ia 6 (by decide) (ii (by decide)) (j := q) (by omega) (by omega), _, h1.fF (by decide) rfl, _, h1.ia 6 (by decide) (ii (by decide)) (j := r) (by omega) (by omega), h1.obF (by decide), ?_⟩
  rw [nx_or]
  refine q_F_put h1 l6 ft hp (f := fun v => two kd (F q v) (F r v)) (FP.mk (or_lt10 fq.1 fr.1) (NUm.of (fun x y hx hy hi => ?_)) (by rw [or_d64]; exact hs)) hK
  have e1 : F q x = F q y := fq.2.1.eq hx hy (fun i hb => hi i (by rw [Nat.testBit_or, hb]; rfl))
  have e2 : F r x = F r y := fr.2.1.eq hx hy (fun i hb => hi i (by rw [Nat.testBit_or, hb, Bool.or_true]))
  show two kd (F q x) (F r x) = two kd (F q y) (F r y)
  rw [e1, e2]
theorem q_F_select_L {q r s kept : Nat} {x1 x2 x3 x4 : Int32} (hq : q < 24) (hr : r < 24) (hs : s < 24) (fq : FP (F q) (I 6 q) (L (42 + q))) (fr : FP (F r) (I 6 r) (L (42 + r))) (fs : FP (F s) (I 6 s) (L (42 + s))) (hk : kept < 16) {Ex : PS → Prop} (hE : ∀ (u' : PS) (r' : Nat → Int64), VC 69 ad S I ln (va_up L 66 r') E z u' → SPI (fun v => if F q v then F r v else F s v) kept 16 r' → Ex u') : ∀ (d w : Nat) (u : PS) (rr : Nat → Int64), 16 < w + d → w ≤ 16 → (w < 16 → w &&& kept = w) → VC 69 ad S I ln (va_up L 66 rr) E z u → SPI (fun v => if F q v then F r v else F s v) kept w rr → p_F_select_L69 (ad 1) x1 x2 x3 x4 (ad (42 + q)) (ad (42 + r)) (ad (42 + s)) (ad 66) (nI (I 6 q / 64)) (nI (I 6 r / 64)) (nI (I 6 s / 64)) (lfO kept) Ex d (nI w) u := by
  intro d
  induction d with
  | zero => intro w u rr h1 h2; exact absurd h1 (by omega)
  | succ d ih =>
    intro w u rr h1 h2 hs' h hr'
    rw [p_F_select_L69]
    refine pk_le 16 w (fun c => ?_) (fun c => ?_)
    · obtain rfl : w = 16 := by omega
      exact hE u rr h hr'
    · have hs'' := hs' c
      obtain ⟨n1, n2, n3⟩ := nxw_s kept hk w c hs''
      rw [nx_and, nx_and, nx_and]
      refine ⟨_, sp_la h hq (and_lt16 c), _, sp_la h hr (and_lt16 c), _, sp_la h hs (and_lt16 c), sp_st h hk c hs'' hr' (fun b hb => ?_) (fun u' r' h' hr'' => nm_e ?_)⟩
      · rw [w_or, w_and, w_and, w_not _ hb, fq.w c hb, fr.w c hb, fs.w c hb]
        show _ = if F q (64 * w + b) then F r (64 * w + b) else F s (64 * w + b)
        cases F q (64 * w + b) <;> simp
      · rw [nxw_e kept hk w c]
        exact ih (nxw kept w) u' r' (by omega) n2 n3 h' hr''
theorem q_F_select {u : PS} (h : VC 69 ad S I ln L E z u) (l6 : ln 6 = 24) (ft : FK F S I L) {p q r s : Nat} (hp : p < 24) (hq : q < 24) (hr : r < 24) (hs : s < 24) {K : PS → Prop} (hK : ∀ (u' : PS) (ad' S' : Nat → Nat) (I' : Nat → Nat → Nat) (L' : Nat → Nat → Int64), VC 69 ad' S' I' ln L' E z u' → FK (upF F p (fun v => if F q v then F r v else F s v)) S' I' L' → FRF p ad S I ad' S' I' → K u') : p_F_select (ad 1) (nI p) (nI q) (nI r) (nI s) u K := by
  have fq := ft.1 q hq
  have fr := ft.1 r hr
  have fs := ft.1 s hs
  have kl : I 6 q / 64 ||| I 6 r / 64 ||| I 6 s / 64 < 16 := or_lt16 (or_lt16 (d64_16 fq.1) (d64_16 fr.1)) (d64_16 fs.1)
  unfold p_F_select
  refine ⟨_, h.fF (by decide) rfl, _, h.ra (by decide) hq, _, h.fF (by decide) rfl, _, h.ra (by decide) hr, _, h.fF (by decide) rfl, _, h.ra (by decide) hs, _, h.fF (by decide) rfl, h.obF (by decide), q_F_kept h l6 hq fq.1 ⟨h.obF (by decide), q_F_kept h l6 hr fr.1 ⟨h.obF (by decide), q_F_kept h l6 hs fs.1 ?_⟩⟩⟩
  unfold p_F_leftOut
  rw [nx_or, nx_or]
  refine ⟨17, q_F_select_L hq hr hs fq fr fs kl (fun u1 r1 h1 hs' => ?_) 17 0 u (L 66) (by omega) (by omega) (fun _ => Nat.zero_and _) (by rw [up_id]; exact h) (SPI.nil _ _ _)⟩
  unfold p_F_select_J135
  refine ⟨_, h1.fF (by decide) rfl, _, h1.ia 6 (by decide) (ii (by decide)) (j := q) (by omega) (by omega), _, h1.fF (by decide) rfl, _, h1.ia 6 (by decide) (ii (by decide)) (j := r) (by omega) (by omega), _, h1.fF (by decide) rfl, _, h1.ia 6 (by decide) (ii (by decide)) (j := s) (by omega) (by omega), h1.obF (by decide), ?_⟩
  rw [nx_or, nx_or]
  refine q_F_put h1 l6 ft hp (f := fun v => if F q v then F r v else F s v) (FP.mk (or_lt10 (or_lt10 fq.1 fr.1) fs.1) (NUm.of (fun x y hx hy hi => ?_)) (by rw [or_d64, or_d64]; exact hs')) hK
  have e1 : F q x = F q y := fq.2.1.eq hx hy (fun i hb => hi i (by rw [Nat.testBit_or, Nat.testBit_or, hb]; rfl))
  have e2 : F r x = F r y := fr.2.1.eq hx hy (fun i hb => hi i (by rw [Nat.testBit_or, Nat.testBit_or, hb]; simp))
  have e3 : F s x = F s y := fs.2.1.eq hx hy (fun i hb => hi i (by rw [Nat.testBit_or, Nat.testBit_or, hb]; simp))
  show (if F q x then F r x else F s x) = if F q y then F r y else F s y
  rw [e1, e2, e3]
end FU3
