/-! Functions: project() -/
theorem qs_ex (set : Nat) (f : Nat → Bool) : ∀ n : Nat, n ≤ 10 → ∀ v : Nat, v < 1024 → (qs false set f n v = true ↔ ∃ x : Nat, x < 1024 ∧ (∀ i : Nat, (n ≤ i ∨ set.testBit i = false) → x.testBit i = v.testBit i) ∧ f x = true) := by
  intro n
  induction n with
  | zero =>
    intro _ v hv
    constructor
    · intro w
      exact ⟨v, hv, fun i _ => rfl, w⟩
    · rintro ⟨x, hx, he, w⟩
      have : x = v := Nat.eq_of_testBit_eq (fun i => he i (Or.inl (Nat.zero_le i)))
      subst this
      exact w
  | succ n ih =>
    intro hn v hv
    rw [qs]
    cases hs : set.testBit n
    · rw [if_neg (by decide), ih (by omega) v hv]
      constructor
      · rintro ⟨x, hx, he, w⟩
        exact ⟨x, hx, fun i hi => he i (hi.elim (fun q => Or.inl (by omega)) Or.inr), w⟩
      · rintro ⟨x, hx, he, w⟩
        refine ⟨x, hx, fun i hi => ?_, w⟩
        by_cases c : i = n
        · subst c; exact he i (Or.inr hs)
        · exact he i (hi.elim (fun q => Or.inl (by omega)) Or.inr)
    · rw [if_pos rfl]
      unfold q1
      rw [if_neg (by decide), Bool.or_eq_true, ih (by omega) _ (setb_10 false hv (by omega)), ih (by omega) _ (setb_10 true hv (by omega))]
      have fw : ∀ c : Bool, (∃ x : Nat, x < 1024 ∧ (∀ i : Nat, (n ≤ i ∨ set.testBit i = false) → x.testBit i = (setb v n c).testBit i) ∧ f x = true) → ∃ x : Nat, x < 1024 ∧ (∀ i : Nat, (n + 1 ≤ i ∨ set.testBit i = false) → x.testBit i = v.testBit i) ∧ f x = true := by
        rintro c ⟨x, hx, he, w⟩
        refine ⟨x, hx, fun i hi => ?_, w⟩
        have ne : i ≠ n := fun e => by
          subst e
          rcases hi with hi | hi
          · omega
          · rw [hs] at hi; exact absurd hi (by decide)
        rw [he i (hi.elim (fun q => Or.inl (by omega)) Or.inr), tb_setb, if_neg ne]
      constructor
      · rintro (w | w)
        · exact fw false w
        · exact fw true w
      · rintro ⟨x, hx, he, w⟩
        have bk : ∀ c : Bool, x.testBit n = c → ∃ x : Nat, x < 1024 ∧ (∀ i : Nat, (n ≤ i ∨ set.testBit i = false) → x.testBit i = (setb v n c).testBit i) ∧ f x = true := fun c hc => by
          refine ⟨x, hx, fun i hi => ?_, w⟩
          rw [tb_setb]
          by_cases e : i = n
          · rw [if_pos e, e]; exact hc
          · rw [if_neg e]
            exact he i (hi.elim (fun q => Or.inl (by omega)) Or.inr)
        cases hc : x.testBit n
        · exact Or.inl (bk false hc)
        · exact Or.inr (bk true hc)
theorem qs_all (set : Nat) (f : Nat → Bool) : ∀ n v : Nat, qs true set f n v = !qs false set (fun x => !f x) n v := by
  intro n
  induction n with
  | zero =>
    intro v
    show f v = !(!f v)
    rw [Bool.not_not]
  | succ n ih =>
    intro v
    rw [qs, qs]
    cases hs : set.testBit n
    · rw [if_neg (by decide), if_neg (by decide)]
      exact ih v
    · rw [if_pos rfl, if_pos rfl]
      unfold q1
      rw [if_pos rfl, if_neg (by decide), ih, ih, Bool.not_or]
theorem nI_diff {us set : Nat} (hu : us < 1024) : nI us &&& (nI set ^^^ (-1 : Int32)) = nI (us &&& (set ^^^ 1023)) := by
  refine b_ext (fun i hi => ?_)
  rw [b_and, b_xor, bt_nI _ hi, bt_nI _ hi, bt_nI _ hi, b_m1 i hi, Nat.testBit_and, Nat.testBit_xor]
  by_cases c : i < 10
  · rw [show (1023 : Nat) = 2 ^ 10 - 1 from rfl, Nat.testBit_two_pow_sub_one, decide_eq_true c]
  · have : us.testBit i = false := Nat.testBit_lt_two_pow (Nat.lt_of_lt_of_le hu (Nat.pow_le_pow_right (n := 2) (by decide) (show 10 ≤ i by omega)))
    rw [this, Bool.false_and, Bool.false_and]
theorem tb_diff {us set i : Nat} (hu : us < 1024) : (us &&& (set ^^^ 1023)).testBit i = (us.testBit i && !set.testBit i) := by
  rw [Nat.testBit_and, Nat.testBit_xor]
  by_cases c : i < 10
  · rw [show (1023 : Nat) = 2 ^ 10 - 1 from rfl, Nat.testBit_two_pow_sub_one, decide_eq_true c]
    cases us.testBit i <;> cases set.testBit i <;> rfl
  · have : us.testBit i = false := Nat.testBit_lt_two_pow (Nat.lt_of_lt_of_le hu (Nat.pow_le_pow_right (n := 2) (by decide) (show 10 ≤ i by omega)))
    rw [this, Bool.false_and, Bool.false_and]
theorem tb_dif6 {b m i : Nat} (hb : b < 64) : (b &&& (m ^^^ 63)).testBit i = (b.testBit i && !m.testBit i) := by
  rw [Nat.testBit_and, Nat.testBit_xor]
  by_cases c : i < 6
  · rw [show (63 : Nat) = 2 ^ 6 - 1 from rfl, Nat.testBit_two_pow_sub_one, decide_eq_true c]
    cases b.testBit i <;> cases m.testBit i <;> rfl
  · have : b.testBit i = false := Nat.testBit_lt_two_pow (Nat.lt_of_lt_of_le hb (Nat.pow_le_pow_right (n := 2) (by decide) (show 6 ≤ i by omega)))
    rw [this, Bool.false_and, Bool.false_and]
section FU5
variable {L : Nat → Nat → Int64} {E : (Nat → Prop) × (Nat → Option PE)} {ad S : Nat → Nat} {I : Nat → Nat → Nat} {ln : Nat → Nat} {z : Nat × Nat} {F : Nat → Nat → Bool} {u : PS}
def tnW (t : Bool) : Int64 := if t then -1 else 0
theorem tnW_b (t : Bool) {b : Nat} (hb : b < 64) : WB (tnW t) b = t := by
  cases t
  · exact wz_0 b
  · exact w_m1 b hb
/-- the functions that are met, as the loops see them -/
def mtF (F : Nat → Nat → Bool) (q r : Nat) (t : Bool) : Nat → Bool := fun v => (F q v ^^ t) && (F r v ^^ t)
def SWI (g : Nat → Bool) (w st x : Nat) (acc : Int64) : Prop := ∀ b : Nat, b < 64 → (WB acc b = true ↔ ∃ y : Nat, y < x ∧ y &&& st = y ∧ g (64 * (w ||| y) + b) = true)
theorem q_F_sw_L {r0 : Nat → Int64} (h : VC 69 ad S I ln (va_up L 66 r0) E z u) {q r w st : Nat} {t : Bool} (hq : q < 24) (hr : r < 24) (hw : w < 16) (fq : FP (F q) (I 6 q) (L (42 + q))) (fr : FP (F r) (I 6 r) (L (42 + r))) (hst : st < 16) {Ex : Int64 → PS → Prop} (hE : ∀ acc : Int64, SWI (mtF F q r t) w st 16 acc → Ex acc u) : ∀ (d x : Nat) (acc : Int64), 16 < x + d → x ≤ 16 → (x < 16 → x &&& st = x) → SWI (mtF F q r t) w st x acc → p_F_someWords_L43 (nI w) (tnW t) (ad (42 + q)) (ad (42 + r)) (nI (I 6 q / 64)) (nI (I 6 r / 64)) (lfO st) Ex d acc (nI x) u := by
  intro d
  induction d with
  | zero => intro x acc h1 h2; exact absurd h1 (by omega)
  | succ d ih =>
    intro x acc h1 h2 hs' hi
    rw [p_F_someWords_L43]
    refine pk_le 16 x (fun cc => ?_) (fun cc => ?_)
    · obtain rfl : x = 16 := by omega
      exact hE acc hi
    · have hs'' := hs' cc
      obtain ⟨n1, n2, n3⟩ := nxw_s st hst x cc hs''
      have wl : w ||| x < 16 := or_lt16 hw cc
      rw [nx_or, nx_and, nx_and]
      refine ⟨_, sp_la h hq (and_lt16 wl), _, sp_la h hr (and_lt16 wl), nm_e (nm_e ?_)⟩
      rw [nxw_e st hst x cc]
      refine ih (nxw st x) _ (by omega) n2 n3 (fun b hb => ?_)
      rw [w_or, Bool.or_eq_true, hi b hb, w_and, w_xor, w_xor, tnW_b t hb, fq.w wl hb, fr.w wl hb]
      constructor
      · rintro (⟨y, a, b1, c⟩ | w1)
        · exact ⟨y, by omega, b1, c⟩
        · exact ⟨x, n1, hs'', w1⟩
      · rintro ⟨y, a, b1, c⟩
        have := nxw_g st hst x cc hs'' y a b1
        by_cases e : y = x
        · subst e; exact Or.inr c
        · exact Or.inl ⟨y, by omega, b1, c⟩
theorem q_F_someWords {r0 : Nat → Int64} (h : VC 69 ad S I ln (va_up L 66 r0) E z u) (l6 : ln 6 = 24) {q r w st : Nat} {t : Bool} (hq : q < 24) (hr : r < 24) (hw : w < 16) (fq : FP (F q) (I 6 q) (L (42 + q))) (fr : FP (F r) (I 6 r) (L (42 + r))) (hst : st < 16) {Ex : Int64 → PS → Prop} (hE : ∀ acc : Int64, SWI (mtF F q r t) w st 16 acc → Ex acc u) : p_F_someWords (ad 1) (nI q) (nI r) (nI w) (nI st) (tnW t) u Ex := by
  unfold p_F_someWords
  refine ⟨_, h.fF (by decide) rfl, _, h.ra (by decide) hq, _, h.fF (by decide) rfl, _, h.ra (by decide) hr, h.obF (by decide), q_F_kept h l6 hq fq.1 ⟨h.obF (by decide), q_F_kept h l6 hr fr.1 ?_⟩⟩
  unfold p_F_leftOut
  refine ⟨17, q_F_sw_L h hq hr hw fq fr hst hE 17 0 0 (by omega) (by omega) (fun _ => Nat.zero_and _) (fun b hb => ?_)⟩
  rw [wz_0]
  exact ⟨fun w => absurd w (by decide), fun ⟨y, a, _⟩ => absurd a (by omega)⟩
def SIR (x : Int64) (rest : Nat) (y : Int64) : Prop := ∀ b : Nat, b < 64 → (WB y b = true ↔ ∃ b' : Nat, b' < 64 ∧ (∀ i : Nat, rest.testBit i = false → b'.testBit i = b.testBit i) ∧ WB x b' = true)
theorem q_F_si_L {Ex : Int64 → PS → Prop} : ∀ (n rest : Nat) (x : Int64), rest < n → rest < 64 → (∀ y : Int64, SIR x rest y → Ex y u) → p_F_someWithin_L8 Ex n x (nI rest) u := by
  intro n
  induction n with
  | zero => intro rest x h; exact absurd h (by omega)
  | succ n ih =>
    intro rest x hn hr hE
    rw [p_F_someWithin_L8]
    refine ⟨fun w => ?_, fun w => ?_⟩
    · have x0 : rest = 0 := (nI_0I (by omega)).mp w
      subst x0
      refine hE x (fun b hb => ⟨fun w => ⟨b, hb, fun _ _ => rfl, w⟩, fun ⟨b', _, he, w⟩ => ?_⟩)
      have : b' = b := Nat.eq_of_testBit_eq (fun i => he i (Nat.zero_testBit i))
      subst this; exact w
    · have x0 : rest ≠ 0 := fun q => w (by rw [q]; rfl)
      obtain ⟨t, ht⟩ := LB.ex rest (by omega)
      have t6 : t < 6 := ht.lt (n := 6) hr
      have hl := setb_drop_lt ht
      refine q_ntz ht (by omega) (nm_e ⟨vp_in_nI t6 (by decide), nm_e (nm_e (nm_e ?_))⟩)
      rw [nI_drop ht, nI_pw (by omega), nI_clamp (by omega)]
      refine ih (setb rest t false) _ (by omega) (by omega) (fun y hy => hE y (fun b hb => ?_))
      rw [hy b hb]
      constructor
      · rintro ⟨b', h1, h2, h3⟩
        rw [w_sm t6 _ h1, Bool.or_eq_true] at h3
        have fw : ∀ c : Bool, WB x (setb b' t c) = true → ∃ b' : Nat, b' < 64 ∧ (∀ i : Nat, rest.testBit i = false → b'.testBit i = b.testBit i) ∧ WB x b' = true := fun c hc => by
          refine ⟨_, setb_6 c h1 t6, fun i hi => ?_, hc⟩
          have ne : i ≠ t := fun e => by subst e; rw [ht.at] at hi; exact absurd hi (by decide)
          rw [tb_setb, if_neg ne]
          exact h2 i (by rw [tb_setb, if_neg ne]; exact hi)
        rcases h3 with h3 | h3
        · exact fw false h3
        · exact fw true h3
      · rintro ⟨b2, h1, h2, h3⟩
        refine ⟨setb b2 t (b.testBit t), setb_6 _ h1 t6, fun i hi => ?_, ?_⟩
        · rw [tb_setb]
          by_cases e : i = t
          · rw [if_pos e, e]
          · rw [tb_setb, if_neg e] at hi
            rw [if_neg e]; exact h2 i hi
        · rw [w_sm t6 _ (setb_6 _ h1 t6), setb_setb, setb_setb, Bool.or_eq_true]
          cases hc : b2.testBit t
          · exact Or.inl (by rw [setb_self hc]; exact h3)
          · exact Or.inr (by rw [setb_self hc]; exact h3)
theorem q_F_someWithin {x : Int64} {ov : Nat} (ho : ov < 1024) {K : Int64 → PS → Prop} (hK : ∀ y : Int64, SIR x (ov % 64) y → K y u) : p_F_someWithin x (nI ov) u K := by
  unfold p_F_someWithin
  refine nm_e ?_
  rw [pk_andN (by omega) (m := (63 : Int32)) 6 rfl]
  exact ⟨65, q_F_si_L 65 (ov % 64) x (by omega) (by omega) (fun y hy => hK y hy)⟩
/-- what a projection is -/
def PJ (F : Nat → Nat → Bool) (q r set : Nat) (t : Bool) : Nat → Bool := fun v => qs false set (mtF F q r t) 10 v ^^ t
theorem NUm.pj {g : Nat → Bool} {us set : Nat} (hu : us < 1024) (hs : set < 1024) (h : NUm g us) (t : Bool) : NUm (fun v => qs false set g 10 v ^^ t) (us &&& (set ^^^ 1023)) := by
  have key : ∀ x y : Nat, x < 1024 → y < 1024 → (∀ i : Nat, (us &&& (set ^^^ 1023)).testBit i = true → x.testBit i = y.testBit i) → qs false set g 10 x = true → qs false set g 10 y = true := by
    intro x y hx hy he w
    rw [qs_ex set g 10 (Nat.le_refl _) x hx] at w
    rw [qs_ex set g 10 (Nat.le_refl _) y hy]
    obtain ⟨x', h1, h2, h3⟩ := w
    have l1 : (x' &&& set) ||| (y &&& (set ^^^ 1023)) < 1024 := or_lt10 (and_lt10 h1) (and_lt10 hy)
    have tb : ∀ i : Nat, ((x' &&& set) ||| (y &&& (set ^^^ 1023))).testBit i = if set.testBit i then x'.testBit i else y.testBit i := fun i => by
      rw [Nat.testBit_or, tb_diff hy, Nat.testBit_and]
      cases set.testBit i <;> simp
    refine ⟨_, l1, fun i hi => ?_, ?_⟩
    · rw [tb]
      rcases hi with hi | hi
      · have e1 : set.testBit i = false := Nat.testBit_lt_two_pow (Nat.lt_of_lt_of_le hs (Nat.pow_le_pow_right (n := 2) (by decide) hi))
        rw [e1]; rfl
      · rw [hi]; rfl
    · rw [← h3]
      refine h.eq l1 h1 (fun i hi => ?_)
      rw [tb]
      cases e : set.testBit i
      · rw [if_neg (by decide), h2 i (Or.inr e)]
        exact (he i (by rw [tb_diff hu, hi, e]; rfl)).symm
      · rw [if_pos rfl]
  refine NUm.of (fun x y hx hy he => ?_)
  have k1 := key x y hx hy he
  have k2 := key y x hy hx (fun i hi => (he i hi).symm)
  have e : qs false set g 10 x = qs false set g 10 y := by
    cases a : qs false set g 10 x
    · cases b : qs false set g 10 y
      · rfl
      · rw [k2 b] at a; exact absurd a (by decide)
    · exact (k1 a).symm
  show (qs false set g 10 x ^^ t) = (qs false set g 10 y ^^ t)
  rw [e]
/-- a word of it -/
theorem pj_word {g : Nat → Bool} {us set w : Nat} (hu : us < 1024) (hs : set < 1024) (h : NUm g us) (hw : w < 16) (hk : w &&& (us &&& (set ^^^ 1023)) / 64 = w) {a y : Int64} (h1 : SWI g w ((us &&& set) / 64) 16 a) (h2 : SIR a ((us &&& set) % 64) y) {b : Nat} (hb : b < 64) : WB y b = qs false set g 10 (64 * w + b) := by
  have key : WB y b = true ↔ qs false set g 10 (64 * w + b) = true := by
    rw [h2 b hb, qs_ex set g 10 (Nat.le_refl _) _ (wb_lt hw hb)]
    have wz : ∀ i : Nat, 6 ≤ i → set.testBit i = true → w.testBit (i - 6) = false := fun i hi hb => tb_sub hk (by rw [tb_d64, show 6 + (i - 6) = i by omega, tb_diff hu, hb]; simp)
    constructor
    · rintro ⟨b', b1, b2, b3⟩
      obtain ⟨v, v1, v2, v3⟩ := (h1 b' b1).mp b3
      refine ⟨_, wb_lt (or_lt16 hw v1) b1, fun i hi => ?_, v3⟩
      have hi' : set.testBit i = false := hi.elim (fun q => Nat.testBit_lt_two_pow (Nat.lt_of_lt_of_le hs (Nat.pow_le_pow_right (n := 2) (by decide) q))) (fun q => q)
      rw [tb_wb _ b1, tb_wb _ hb]
      by_cases c : i < 6
      · rw [if_pos c, if_pos c]
        exact b2 i (by rw [tb_m64, Nat.testBit_and, hi']; simp)
      · rw [if_neg c, if_neg c, Nat.testBit_or]
        have : v.testBit (i - 6) = false := tb_sub v2 (by rw [tb_d64, show 6 + (i - 6) = i by omega, Nat.testBit_and, hi', Bool.and_false])
        rw [this, Bool.or_false]
    · rintro ⟨x, x1, x2, x3⟩
      have c1 : x / 64 &&& (us &&& set) / 64 < 16 := and_lt16 (by omega)
      have c2 : (x % 64 &&& (us &&& set) % 64) ||| (b &&& ((us &&& set) % 64 ^^^ 63)) < 64 := Nat.or_lt_two_pow (n := 6) (Nat.lt_of_le_of_lt Nat.and_le_left (show x % 64 < 64 by omega)) (Nat.lt_of_le_of_lt Nat.and_le_left hb)
      have tb : ∀ i : Nat, i < 6 → ((x % 64 &&& (us &&& set) % 64) ||| (b &&& ((us &&& set) % 64 ^^^ 63))).testBit i = if (us.testBit i && set.testBit i) then x.testBit i else b.testBit i := fun i hi => by
        rw [Nat.testBit_or, tb_dif6 hb, Nat.testBit_and, tb_m64, tb_m64, Nat.testBit_and, decide_eq_true hi]
        cases us.testBit i && set.testBit i <;> simp
      refine ⟨_, c2, fun i hi => ?_, ?_⟩
      · by_cases c : i < 6
        · rw [tb i c]
          rw [tb_m64, decide_eq_true c, Nat.testBit_and, Bool.true_and] at hi
          rw [hi]; rfl
        · have z1 : ∀ a : Nat, a < 64 → a.testBit i = false := fun a ha => Nat.testBit_lt_two_pow (Nat.lt_of_lt_of_le ha (Nat.pow_le_pow_right (n := 2) (by decide) (show 6 ≤ i by omega)))
          rw [z1 _ c2, z1 _ hb]
      · rw [h1 _ c2]
        refine ⟨_, c1, by rw [Nat.and_assoc, Nat.and_self], ?_⟩
        rw [← x3]
        refine h.eq (wb_lt (or_lt16 hw c1) c2) x1 (fun i hi => ?_)
        rw [tb_wb _ c2]
        have hv := x2 i
        rw [tb_wb _ hb] at hv
        by_cases c : i < 6
        · rw [if_pos c, tb i c, hi, Bool.true_and]
          rw [if_pos c] at hv
          cases e : set.testBit i
          · rw [if_neg (by decide)]; exact (hv (Or.inr e)).symm
          · rw [if_pos rfl]
        · rw [if_neg c, Nat.testBit_or, Nat.testBit_and, tb_d64, tb_d64, show 6 + (i - 6) = i by omega, Nat.testBit_and, hi, Bool.true_and]
          rw [if_neg c] at hv
          cases e : set.testBit i
          · rw [Bool.and_false, Bool.or_false]; exact (hv (Or.inr e)).symm
          · rw [wz i (by omega) e, Bool.and_true, Bool.false_or]
  cases a1 : WB y b
  · cases b1 : qs false set g 10 (64 * w + b)
    · rfl
    · rw [key.mpr b1] at a1; exact absurd a1 (by decide)
  · exact (key.mp a1).symm
theorem q_F_project_L {q r set : Nat} {t : Bool} {x1 x4 x6 : Int32} (l6 : ln 6 = 24) (hq : q < 24) (hr : r < 24) (hset : set < 1024) (fq : FP (F q) (I 6 q) (L (42 + q))) (fr : FP (F r) (I 6 r) (L (42 + r))) {Ex : PS → Prop} (hE : ∀ (u' : PS) (r' : Nat → Int64), VC 69 ad S I ln (va_up L 66 r') E z u' → SPI (PJ F q r set t) (((I 6 q ||| I 6 r) &&& (set ^^^ 1023)) / 64) 16 r' → Ex u') : ∀ (d w : Nat) (u : PS) (rr : Nat → Int64), 16 < w + d → w ≤ 16 → (w < 16 → w &&& (((I 6 q ||| I 6 r) &&& (set ^^^ 1023)) / 64) = w) → VC 69 ad S I ln (va_up L 66 rr) E z u → SPI (PJ F q r set t) (((I 6 q ||| I 6 r) &&& (set ^^^ 1023)) / 64) w rr → p_F_project_L60 (ad 1) x1 (nI q) (nI r) x4 x6 (nI ((I 6 q ||| I 6 r) &&& set)) (ad 66) (tnW t) (lfO (((I 6 q ||| I 6 r) &&& (set ^^^ 1023)) / 64)) Ex d (nI w) u := by
  have us10 : I 6 q ||| I 6 r < 1024 := or_lt10 fq.1 fr.1
  have hk16 : ((I 6 q ||| I 6 r) &&& (set ^^^ 1023)) / 64 < 16 := d64_16 (and_lt10 us10)
  have nu : NUm (mtF F q r t) (I 6 q ||| I 6 r) := NUm.of (fun x y hx hy hi => by
    have e1 : F q x = F q y := fq.2.1.eq hx hy (fun i hb => hi i (by rw [Nat.testBit_or, hb]; rfl))
    have e2 : F r x = F r y := fr.2.1.eq hx hy (fun i hb => hi i (by rw [Nat.testBit_or, hb, Bool.or_true]))
    unfold mtF
    rw [e1, e2])
  intro d
  induction d with
  | zero => intro w u rr h1 h2; exact absurd h1 (by omega)
  | succ d ih =>
    intro w u rr h1 h2 hs' h hr'
    rw [p_F_project_L60]
    refine pk_le 16 w (fun cc => ?_) (fun cc => ?_)
    · obtain rfl : w = 16 := by omega
      exact hE u rr h hr'
    · have hs'' := hs' cc
      obtain ⟨n1, n2, n3⟩ := nxw_s _ hk16 w cc hs''
      rw [show (6 : Int32) = nI 6 from rfl, nI_shr (Nat.lt_of_lt_of_le (and_lt10 us10) (by decide)) (by decide)]
      refine ⟨h.obF (by decide), q_F_someWords h l6 hq hr cc fq fr (d64_16 (and_lt10 us10)) (fun a ha => q_F_someWithin (and_lt10 us10) (fun y hy => ?_))⟩
      refine sp_st h hk16 cc hs'' hr' (fun b hb => ?_) (fun u' r' h' hr'' => nm_e ?_)
      · rw [w_xor, tnW_b t hb, pj_word us10 hset nu cc hs'' ha hy hb]; rfl
      · rw [nxw_e _ hk16 w cc]
        exact ih (nxw _ w) u' r' (by omega) n2 n3 h' hr''
theorem q_F_project (h : VC 69 ad S I ln L E z u) (l6 : ln 6 = 24) (ft : FK F S I L) {p q r set : Nat} (t : Bool) (hp : p < 24) (hq : q < 24) (hr : r < 24) (hs : set < 1024) {K : PS → Prop} (hK : ∀ (u' : PS) (ad' S' : Nat → Nat) (I' : Nat → Nat → Nat) (L' : Nat → Nat → Int64), VC 69 ad' S' I' ln L' E z u' → FK (upF F p (PJ F q r set t)) S' I' L' → FRF p ad S I ad' S' I' → K u') : p_F_project (ad 1) (nI p) (nI q) (nI r) (nI set) (bI t) u K := by
  have fq := ft.1 q hq
  have fr := ft.1 r hr
  have us10 : I 6 q ||| I 6 r < 1024 := or_lt10 fq.1 fr.1
  have nu : NUm (mtF F q r t) (I 6 q ||| I 6 r) := NUm.of (fun x y hx hy hi => by
    have e1 : F q x = F q y := fq.2.1.eq hx hy (fun i hb => hi i (by rw [Nat.testBit_or, hb]; rfl))
    have e2 : F r x = F r y := fr.2.1.eq hx hy (fun i hb => hi i (by rw [Nat.testBit_or, hb, Bool.or_true]))
    unfold mtF
    rw [e1, e2])
  have J : p_F_project_J40 K (ad 1) (nI p) (nI q) (nI r) (nI set) (nI (I 6 q ||| I 6 r)) (nI ((I 6 q ||| I 6 r) &&& set)) (ad 66) (tnW t) u := by
    unfold p_F_project_J40
    rw [nI_diff us10, show (6 : Int32) = nI 6 from rfl, nI_shr (Nat.lt_of_lt_of_le (and_lt10 us10) (by decide)) (by decide)]
    unfold p_F_leftOut
    refine ⟨17, q_F_project_L l6 hq hr hs fq fr (fun u1 r1 h1 hs1 => ?_) 17 0 u (L 66) (by omega) (by omega) (fun _ => Nat.zero_and _) (by rw [up_id]; exact h) (SPI.nil _ _ _)⟩
    unfold p_F_project_J116
    rw [nI_diff us10]
    exact ⟨h1.obF (by decide), q_F_put h1 l6 ft hp (f := PJ F q r set t) (FP.mk (and_lt10 us10) (NUm.pj us10 hs nu t) hs1) hK⟩
  unfold p_F_project
  refine ⟨_, h.fF (by decide) rfl, _, h.ia 6 (by decide) (ii (by decide)) (j := q) (by omega) (by omega), _, h.fF (by decide) rfl, _, h.ia 6 (by decide) (ii (by decide)) (j := r) (by omega) (by omega), nm_e (nm_e ⟨_, h.fF (by decide) rfl, ?_⟩)⟩
  rw [nx_or, nx_and]
  refine ⟨fun w => ?_, fun w => ?_⟩
  · have : t = false := (bI_0 t).mp w
    subst this
    exact J
  · have : t = true := by
      cases t
      · exact absurd rfl w
      · rfl
    subst this
    exact J
end FU5
