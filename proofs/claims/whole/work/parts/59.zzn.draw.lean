/-! Diagrams: draw() -/
/-- what is left of a root's function is led to -/
theorem CAN.led {o : Nat → Nat} {g : Nat → Nat} {D : Nat → Fn} (h : CAN (Wo o) g D) (ho : PO o) {m : Nat} (hm : IN g m) (a : Asg) : ∀ (j n : Nat), j ≤ 10 → g n ≠ 0 → D n = fx (bef o j) a (D m) → n = m ∨ ∃ k : Nat, g k ≠ 0 ∧ (n0 (g k) = n ∨ n1 (g k) = n) := by
  intro j
  induction j with
  | zero =>
    intro n _ hn e
    rw [fx_0] at e
    exact Or.inl (h.inj (Or.inr hn) hm e)
  | succ j ih =>
    intro n hj hn e
    obtain ⟨k, hk, ek⟩ := h.walk ho hm a j (by omega)
    rw [fx_s ho (by omega), ← ek] at e
    by_cases hd : dep (D k) (o j)
    · have hl := h.live hk hd
      have hb : ∀ i : Nat, i < j → ¬ dep (D k) (o i) := fun i hi => by rw [ek]; exact fx_nd (bef_iff.mpr ⟨i, hi, rfl⟩) _ _
      have hkk : nk (g k) = o j := (h.w hl).uniq (h.dp hl) hd hb
      refine Or.inr ⟨k, hl, ?_⟩
      cases c : a (o j)
      · rw [c, ← hkk, h.c0 hl] at e
        exact Or.inl (h.inj (Or.inr hn) (h.i0 hl) e).symm
      · rw [c, ← hkk, h.c1 hl] at e
        exact Or.inr (h.inj (Or.inr hn) (h.i1 hl) e).symm
    · rw [not_dep hd] at e
      have : n = k := h.inj (Or.inr hn) hk e
      subst this
      exact ih n (by omega) hn ek
theorem brd_iff {m : Nat} (hm : m < 1024) : brd m = true ↔ ∃ a b : Nat, a < 10 ∧ b < 10 ∧ a ≠ b ∧ m.testBit a = true ∧ m.testBit b = true := by
  unfold brd
  rw [decide_eq_true_iff]
  by_cases c : m = 0
  · subst c
    refine ⟨fun h => absurd (Nat.zero_and _) h, fun ⟨a, b, _, _, _, h, _⟩ => ?_⟩
    rw [Nat.zero_testBit] at h
    exact absurd h (by decide)
  · obtain ⟨t, ht⟩ := LB.ex m (by omega)
    have tb : ∀ i : Nat, (m &&& (m - 1)).testBit i = if i = t then false else m.testBit i := fun i => by
      rw [Nat.testBit_and, ht.tb1 i]
      by_cases c1 : i < t
      · rw [if_pos c1, if_neg (by omega), Bool.and_true]
      · rw [if_neg c1]
        by_cases d : i = t
        · rw [if_pos d, Bool.and_false]
        · rw [if_neg d, Bool.and_self]
    constructor
    · intro h
      obtain ⟨i, hi⟩ : ∃ i : Nat, (m &&& (m - 1)).testBit i = true := Classical.byContradiction (fun q => h (Nat.eq_of_testBit_eq (fun i => by
        rw [Nat.zero_testBit]
        cases w : (m &&& (m - 1)).testBit i
        · rfl
        · exact absurd ⟨i, w⟩ q)))
      rw [tb i] at hi
      by_cases d : i = t
      · rw [if_pos d] at hi; exact absurd hi (by decide)
      · rw [if_neg d] at hi
        exact ⟨i, t, tb_10 hm hi, tb_10 hm ht.at, d, hi, ht.at⟩
    · rintro ⟨a, b, _, _, hab, ha, hb⟩ h
      have ea := tb a
      have eb := tb b
      rw [h, Nat.zero_testBit] at ea eb
      by_cases d : a = t
      · rw [if_neg (by omega), hb] at eb; exact absurd eb (by decide)
      · rw [if_neg d, ha] at ea; exact absurd ea (by decide)
def LNS (ln : Nat → Nat) : Prop := ln 6 = 24 ∧ ln 30 = 10 ∧ ln 31 = 32 ∧ ln 32 = 32 ∧ ln 33 = 16 ∧ ln 34 = 16 ∧ ln 35 = 10 ∧ ln 36 = 10 ∧ ln 37 = 10 ∧ ln 38 = 24 ∧ ln 39 = 10 ∧ ln 40 = 10
/-- the house between calls; F: the functions, Fd: those that are drawn -/
def HS (n : Nat × Nat) (L : Nat → Nat → Int64) (E : (Nat → Prop) × (Nat → Option PE)) (R : Nat × Nat) (F Fd : Nat → Nat → Bool) (o rt ad S : Nat → Nat) (I : Nat → Nat → Nat) (ln : Nat → Nat) (z : Nat × Nat) (u : PS) (e t : Nat) (g : Nat → Nat) (D : Nat → Fn) : Prop :=
  NS L E R B0 o Fd rt ad S I ln z u e g D ∧ FK F S I L ∧ ((∀ j : Nat, j < 10 → I 37 j = o j) ∧ ∀ p : Nat, p < 24 → I 38 p = rt p) ∧ LNS ln ∧ PO o ∧ ((S 3 = 0 ∨ S 3 = 1) ∧ (S 3 = 1 → MOK F I)) ∧ (TSH ln t ∧ t ≤ e) ∧ ((∀ m : Nat, I 25 m ≤ S 14) ∧ S 14 ≤ n.1) ∧ ((∀ m : Nat, I 13 m ≤ S 11) ∧ S 11 ≤ n.2)
/-- what is not changed is drawn, and sure -/
def CHG (F Fd : Nat → Nat → Bool) (S : Nat → Nat) : Prop := S 2 < 2 ^ 24 ∧ ∀ p : Nat, p < 24 → (S 2).testBit p = false → fnOf (Fd p) = fnOf (F p) ∧ (S 0).testBit p = true
theorem LNS.fx {p : Nat} {ad S : Nat → Nat} {I : Nat → Nat → Nat} {ln ad' S' : Nat → Nat} {I' : Nat → Nat → Nat} {ln' : Nat → Nat} (h : LNS ln) (k : FX p ad S I ln ad' S' I' ln') : LNS ln' := by
  obtain ⟨a1, a2, a3, a4, a5, a6, a7, a8, a9, a10, a11, a12⟩ := h
  have q := fun i (hi : ¬ (7 ≤ i ∧ i < 24)) => (k.1 i hi).2
  exact ⟨by rw [q 6 (by omega)]; exact a1, by rw [q 30 (by omega)]; exact a2, by rw [q 31 (by omega)]; exact a3, by rw [q 32 (by omega)]; exact a4, by rw [q 33 (by omega)]; exact a5, by rw [q 34 (by omega)]; exact a6, by rw [q 35 (by omega)]; exact a7, by rw [q 36 (by omega)]; exact a8, by rw [q 37 (by omega)]; exact a9, by rw [q 38 (by omega)]; exact a10, by rw [q 39 (by omega)]; exact a11, by rw [q 40 (by omega)]; exact a12⟩
theorem TSH.fx {p t : Nat} {ad S : Nat → Nat} {I : Nat → Nat → Nat} {ln ad' S' : Nat → Nat} {I' : Nat → Nat → Nat} {ln' : Nat → Nat} (h : TSH ln t) (k : FX p ad S I ln ad' S' I' ln') : TSH ln' t := by
  obtain ⟨t0, t1, t2, t3, t4, t5, t6⟩ := h
  have q := fun i (hi : 24 ≤ i) => (k.1 i (by omega)).2
  exact ⟨t0, by rw [q 24 (by omega)]; exact t1, by rw [q 25 (by omega)]; exact t2, by rw [q 26 (by omega)]; exact t3, by rw [q 27 (by omega)]; exact t4, by rw [q 28 (by omega)]; exact t5, by rw [q 29 (by omega)]; exact t6⟩
section DRAW
variable {L : Nat → Nat → Int64} {E : (Nat → Prop) × (Nat → Option PE)} {R n : Nat × Nat} {e t : Nat} {o rt : Nat → Nat} {ad S : Nat → Nat} {I : Nat → Nat → Nat} {ln : Nat → Nat} {z : Nat × Nat} {u : PS} {g : Nat → Nat} {D : Nat → Fn} {F Fd : Nat → Nat → Bool}
theorem upF_s (F : Nat → Nat → Bool) (p : Nat) (f : Nat → Bool) : upF F p f p = f := by funext v; unfold upF; rw [if_pos rfl]
theorem upF_n (F : Nat → Nat → Bool) {p q : Nat} (f : Nat → Bool) (h : q ≠ p) : upF F p f q = F q := by funext v; unfold upF; rw [if_neg h]
/-- the new root takes the old one's place -/
theorem q_D_reroot {L' : Nat → Nat → Int64} {g0 : Nat → Nat} {D0 : Nat → Fn} (ho : PO o) (st : ST o Fd g0 D0 rt) {p : Nat} (hp : p < 24) (dg : DG L' E R B0 e o rt g0 D0 (fnOf (F p)) ad S I ln z u g D) {m : Nat} (hm : IN g m) (hD : D m = fnOf (F p)) (l38 : ln 38 = 24) (h38 : ∀ q : Nat, q < 24 → I 38 q = rt q)
    {X : PS → Prop} (hX : ∀ (u' : PS) (S' : Nat → Nat) (I' : Nat → Nat → Nat) (g' : Nat → Nat), NS L' E R B0 o (upF Fd p (F p)) (va_up rt p m) ad S' I' ln z u' e g' D → (∀ q : Nat, q < 24 → I' 38 q = va_up rt p m q) → FN S (va_up I 38 (I' 38)) S' I' → X u') :
    ∃ z_9 : Nat, x_fr u (ad 2) 0 1 z_9 ∧ (x_ob u z_9 3 ∧ (p_N_lead z_9 (nI m) u (fun (u_10 : PS) => (∃ z_11 : Nat, x_fr u_10 (ad 2) 0 1 z_11 ∧ (∃ z_12 : Nat, x_fr u_10 (ad 2) 0 5 z_12 ∧ (∃ z_13 : Int32, x_ia u_10 z_12 (nI p) z_13 ∧ (x_ob u_10 z_11 3 ∧ (p_N_leadNoMore z_11 z_13 u_10 (fun (u_14 : PS) => (∃ z_15 : Nat, x_fr u_14 (ad 2) 0 5 z_15 ∧ (∃ u_16 : PS, x_is u_14 z_15 (nI p) (nI m) u_16 ∧ X u_16)))))))))))  := by
  obtain ⟨a1, a2, a3, a4, a5, ⟨a6, a6'⟩, a7⟩ := dg
  have hse := a3.inlt a2 hm
  have r8 := a1.nia a2 8 n8 hse
  refine ⟨_, a1.fD (by decide) rfl, a1.obN (by decide), ?_⟩
  unfold p_N_lead
  obtain ⟨u1, s1, k1⟩ := a1.nis a2 8 n8 hse (I 8 m + 1)
  rw [show (1 : Int32) = nI 1 from rfl]
  refine ⟨_, a1.fN (by decide) rfl, _, r8, u1, by rw [nI_add]; exact s1, ?_⟩
  have r38 := k1.ia 38 (by decide) (ii (by decide)) (j := p) (by omega) (by omega)
  rw [up_ne I _ (show (38 : Nat) ≠ 8 by decide), h38 p hp] at r38
  refine ⟨_, k1.fD (by decide) rfl, _, k1.fD (by decide) rfl, _, r38, k1.obN (by decide), ?_⟩
  unfold p_N_leadNoMore
  refine ⟨k1.obN (by decide), ?_⟩
  obtain ⟨xt, hxt⟩ : ∃ xt : Nat → Nat, xt = fun c => if rt p = c then 1 else 0 := ⟨_, rfl⟩
  have xtv : ∀ c : Nat, xt c = if rt p = c then 1 else 0 := fun c => by rw [hxt]
  have ru := fun c => rr_up rt hp m c
  have rp := a6 _ (st.2.1 p hp).1
  have rc1 : RC e g (va_up rt p m) xt (va_up I 8 (va_up (I 8) m (I 8 m + 1)) 8) := fun c hc => by
    have w := a4 c hc
    have r := ru c
    have x := xtv c
    rw [up_eq]
    by_cases q : c = m
    · subst q; rw [up_eq]; rw [if_pos rfl] at r; dsimp only at w; omega
    · rw [up_ne _ _ q]; rw [if_neg (Ne.symm q)] at r; dsimp only at w; omega
  have led : ∀ k : Nat, g k ≠ 0 → 0 < rf g k + rr (va_up rt p m) k + xt k := fun k hk => by
    have parent : (∃ k' : Nat, g k' ≠ 0 ∧ (n0 (g k') = k ∨ n1 (g k') = k)) → 0 < rf g k := fun ⟨k', h1, h2⟩ => (sumTo_pos 16384).mpr ⟨k', a5.lt h1, r1_pos.mpr ⟨h1, h2⟩⟩
    have root : va_up rt p m p = k → 0 < rr (va_up rt p m) k := fun q => (sumTo_pos 24).mpr ⟨p, hp, by rw [if_pos q]; omega⟩
    rcases a6' k hk with q | ⟨j, a, j1, j2⟩
    · rcases st.2.2 k q with ⟨k', h1, h2⟩ | ⟨q', h1, h2⟩
      · have w := a6 k' (Or.inr h1)
        have := parent ⟨k', by rw [w.2.2]; exact h1, by rw [w.2.2]; exact h2⟩
        omega
      · by_cases c : q' = p
        · subst c
          have := xtv k
          rw [if_pos h2] at this
          omega
        · have : 0 < rr (va_up rt p m) k := (sumTo_pos 24).mpr ⟨q', h1, by rw [up_ne _ _ c, if_pos h2]; omega⟩
          omega
    · rw [← hD] at j2
      rcases a5.led ho hm a j k (by omega) hk j2 with w | w
      · have := root (by rw [up_eq]; exact w.symm)
        omega
      · have := parent w
        omega
  have key := q_N_less (ad := ad) (ln := ln) (L := L') (E := E) (R := R) (z := z) (e := e) (D := D) (rt := va_up rt p m) ho 10 12 (rt p) xt g S (va_up I 8 (va_up (I 8) m (I 8 m + 1))) u1 (fun (u_14 : PS) => (∃ z_15 : Nat, x_fr u_14 (ad 2) 0 5 z_15 ∧ (∃ u_16 : PS, x_is u_14 z_15 (nI p) (nI m) u_16 ∧ X u_16))) (by decide) k1 a2 (a3.i8 _) rc1 a5 rp.1 (by rw [xtv, if_pos rfl]; omega) (fun c => by rw [xtv]; split <;> omega) (fun q => by
    obtain ⟨i, hi, ei, _⟩ := a5.w q
    exact ⟨i, hi, ei.symm, by omega⟩) led (fun u2 S2 I2 g2 w1 w2 w3 w4 w5 w6 w7 w8 w9 w10 w11 => ?_)
  · exact key
  · have x0 : va_up xt (rt p) (xt (rt p) - 1) = fun _ => 0 := by
      funext c
      by_cases q : c = rt p
      · subst q; rw [up_eq, xtv, if_pos rfl]
      · rw [up_ne _ _ q, xtv, if_neg (Ne.symm q)]
    rw [x0] at w4 w7 w8
    obtain ⟨u3, s3, k3⟩ := w1.isx 38 (by decide) (ii (by decide)) (j := p) (by omega) (by omega) m
    have i38 : I2 38 = I 38 := by rw [w9.1 38 (by decide), up_ne I _ (show (38 : Nat) ≠ 8 by decide)]
    refine ⟨_, w1.fD (by decide) rfl, u3, s3, hX u3 S2 _ g2 ⟨k3, w2, w3.cong (fun j q1 q2 _ _ => up_ne _ _ (by omega)) rfl rfl rfl (fun _ _ => rfl), by rw [up_ne _ _ (by decide)]; exact w4, ⟨w5, fun q hq => ?_, fun k hk => ?_⟩, by rw [w10]; exact a7⟩ (fun q hq => ?_) ⟨fun i hi => ?_, w9.2.1, ?_⟩⟩
    · have inq : IN g (va_up rt p m q) ∧ D (va_up rt p m q) = fnOf (upF Fd p (F p) q) := by
        by_cases c : q = p
        · subst c; rw [up_eq, upF_s]; exact ⟨hm, hD⟩
        · rw [up_ne _ _ c, upF_n _ _ c]
          have w := a6 _ (st.2.1 q hq).1
          exact ⟨w.1, by rw [w.2.1]; exact (st.2.1 q hq).2⟩
      refine ⟨?_, inq.2⟩
      rcases w8 _ inq.1 with w | w
      · exact w
      · have : 0 < rr (va_up rt p m) (va_up rt p m q) := (sumTo_pos 24).mpr ⟨q, hq, by rw [if_pos rfl]; omega⟩
        omega
    · exact (led_iff w5 _ k).mpr (by have := w7 k hk; dsimp only at this; omega)
    · rw [up_eq, i38]
      by_cases c : q = p
      · subst c; rw [up_eq, up_eq]
      · rw [up_ne _ _ c, up_ne _ _ c]; exact h38 q hq
    · by_cases c : i = 38
      · subst c; rw [up_eq, up_eq]
      · rw [up_ne _ _ c, up_ne _ _ c, w9.1 i hi, up_ne _ _ (by omega)]
    · rw [up_ne _ _ (by decide), up_ne _ _ (by decide), w9.2.2, up_ne _ _ (by decide)]
end DRAW
