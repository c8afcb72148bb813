/-! Drawing: ofFour() -/
def NON : Nat := 4294967295
theorem non_m1 : nI NON = (-1 : Int32) := by decide
def h4x (a0 a1 x : Nat) : Fn := h4 a0 a1 (x.testBit 0) (x.testBit 1) (x.testBit 2) (x.testBit 3)
def nd4 (x : Nat) : Bool := !(x == 0 || x == 5 || x == 10 || x == 15)
theorem nd4_f : ∀ x : Nat, x < 16 → nd4 x = false → x.testBit 0 = x.testBit 2 ∧ x.testBit 1 = x.testBit 3 := by decide
def cf (row : Nat → Nat) : Nat := sumTo (fun x => if row x ≠ NON ∧ nd4 x = true then 1 else 0) 16
theorem cf_le (row : Nat → Nat) : cf row ≤ 12 := by
  have a : sumTo (fun x => if nd4 x = true then 1 else 0) 16 = 12 := by decide
  rw [← a]
  refine sumTo_mono (fun x => ?_) 16
  by_cases c : nd4 x = true
  · rw [if_pos c]; split <;> omega
  · rw [if_neg c, if_neg (fun q => c q.2)]; exact Nat.le_refl _
theorem cf_up {row : Nat → Nat} {x m : Nat} (hx : x < 16) (h0 : row x = NON) (hm : m ≠ NON) : cf (va_up row x m) = cf row + if nd4 x = true then 1 else 0 := by
  have := sumTo_up (f := fun y => if row y ≠ NON ∧ nd4 y = true then 1 else 0) (f' := fun y => if va_up row x m y ≠ NON ∧ nd4 y = true then 1 else 0) (n := x) (fun y hy => by rw [up_ne _ _ hy]) 16 hx
  rw [up_eq, if_neg (show ¬ (row x ≠ NON ∧ nd4 x = true) from fun q => q.1 h0)] at this
  unfold cf
  rw [show (if nd4 x = true then 1 else 0) = if m ≠ NON ∧ nd4 x = true then 1 else 0 by
    by_cases c : nd4 x = true
    · rw [if_pos c, if_pos ⟨hm, c⟩]
    · rw [if_neg c, if_neg (fun q => c q.2)]]
  omega
def CF (a0 a1 : Nat) (g : Nat → Nat) (D : Nat → Fn) (row : Nat → Nat) : Prop := ∀ x : Nat, x < 16 → row x = NON ∨ (IN g (row x) ∧ D (row x) = h4x a0 a1 x)
theorem CF.kp {a0 a1 : Nat} {g g' : Nat → Nat} {D D' : Nat → Fn} {row : Nat → Nat} (h : CF a0 a1 g D row) (k : KP g D g' D') : CF a0 a1 g' D' row := fun x hx => by
  rcases h x hx with q | ⟨q1, q2⟩
  · exact Or.inl q
  · exact Or.inr ⟨(k _ q1).1, by rw [(k _ q1).2.1]; exact q2⟩
def POT (a0 s : Nat) (g : Nat → Nat) (n : Nat) (row : Nat → Nat) : Prop := ∃ a b : Nat, a ≤ 1 ∧ b ≤ 1 ∧ n ≤ s + a + b + cf row ∧ (a = 1 → ∃ m : Nat, g m = cd a0 0 1) ∧ (b = 1 → ∃ m : Nat, g m = cd a0 1 0)
theorem POT.le {a0 s : Nat} {g : Nat → Nat} {n : Nat} {row : Nat → Nat} (h : POT a0 s g n row) : n ≤ s + 14 := by
  obtain ⟨a, b, h1, h2, h3, _⟩ := h
  have := cf_le row
  omega
theorem code_kp {g g' : Nat → Nat} {D D' : Nat → Fn} (k : KP g D g' D') {w : Nat} (hw : w ≠ 0) (h : ∃ m : Nat, g m = w) : ∃ m : Nat, g' m = w := by
  obtain ⟨m, hm⟩ := h
  exact ⟨m, by rw [(k m (Or.inr (by rw [hm]; exact hw))).2.2]; exact hm⟩
theorem POT.mono {a0 s s' : Nat} {g g' : Nat → Nat} {D D' : Nat → Fn} {n n' : Nat} {row : Nat → Nat} (h : POT a0 s g n row) (k : KP g D g' D') (hn : n' + s ≤ n + s') : POT a0 s' g' n' row := by
  obtain ⟨a, b, h1, h2, h3, h4, h5⟩ := h
  exact ⟨a, b, h1, h2, by omega, fun q => code_kp k (cd_ne (by decide)) (h4 q), fun q => code_kp k (cd_ne (by decide)) (h5 q)⟩
theorem POT.bit {a0 s : Nat} {g g' : Nat → Nat} {D D' : Nat → Fn} {n n' : Nat} {row : Nat → Nat} (h : POT a0 s g n row) (k : KP g D g' D') (x y : Bool) (h1 : n' ≤ n + 1) (h2 : (x.toNat = y.toNat ∨ ∃ m : Nat, g m = cd a0 x.toNat y.toNat) → n' = n) (h3 : x.toNat ≠ y.toNat → ∃ m : Nat, g' m = cd a0 x.toNat y.toNat) : POT a0 s g' n' row := by
  by_cases c : x.toNat = y.toNat ∨ ∃ m : Nat, g m = cd a0 x.toNat y.toNat
  · exact h.mono k (by rw [h2 c]; omega)
  · have c1 : x.toNat ≠ y.toNat := fun q => c (Or.inl q)
    have c2 : ¬ ∃ m : Nat, g m = cd a0 x.toNat y.toNat := fun q => c (Or.inr q)
    have c3 := h3 c1
    obtain ⟨a, b, a1, b1, a3, a4, a5⟩ := h
    cases x <;> cases y
    · exact absurd rfl c1
    · have : a ≠ 1 := fun q => c2 (a4 q)
      exact ⟨1, b, by omega, b1, by omega, fun _ => c3, fun q => code_kp k (cd_ne (by decide)) (a5 q)⟩
    · have : b ≠ 1 := fun q => c2 (a5 q)
      exact ⟨a, 1, a1, by omega, by omega, fun q => code_kp k (cd_ne (by decide)) (a4 q), fun _ => c3⟩
    · exact absurd rfl c1
theorem CAN.bit {W : Nat → Fn → Prop} {g : Nat → Nat} {D : Nat → Fn} (h : CAN W g D) (b : Bool) : IN g b.toNat ∧ D b.toNat = fun _ => b := by
  cases b
  · exact ⟨Or.inl (by decide), h.1⟩
  · exact ⟨Or.inl (by decide), h.2.1⟩
theorem four_b : ∀ x : Nat, x < 16 → nI x &&& (1 : Int32) = nI (x.testBit 0).toNat ∧ (nI x >>> ((1 : Int32) &&& 31)) &&& (1 : Int32) = nI (x.testBit 1).toNat ∧ (nI x >>> ((2 : Int32) &&& 31)) &&& (1 : Int32) = nI (x.testBit 2).toNat ∧ nI x >>> ((3 : Int32) &&& 31) = nI (x.testBit 3).toNat := by decide +kernel
section DR3
variable {L : Nat → Nat → Int64} {E : (Nat → Prop) × (Nat → Option PE)} {R : Nat × Nat} {B e : Nat} {o rt g0 : Nat → Nat} {D0 : Nat → Fn} {f : Fn} {ad S : Nat → Nat} {I : Nat → Nat → Nat} {ln : Nat → Nat} {z : Nat × Nat} {u : PS} {g : Nat → Nat} {D : Nat → Fn}
theorem q_G_ofFour (hg : DG L E R B e o rt g0 D0 f ad S I ln z u g D) (ho : PO o) {pl : Nat → Nat} (p0 : pl 0 < 10) (p1 : pl 1 < 10) (l30 : ln 30 = 10) (l34 : ln 34 = 16) (e0 : I 30 0 = o (pl 0)) (e1 : I 30 1 = o (pl 1)) {x s T : Nat} (hx : x < 16) (hT : T + 2 ≤ 2 ^ e) (hB : T + 3 ≤ B) (hs : s + 15 ≤ T) (hf0 : ∃ A : Asg, iteF (o (pl 0)) (fun _ => x.testBit 0) (fun _ => x.testBit 1) = fx (bef o (pl 0)) A f) (hf1 : ∃ A : Asg, iteF (o (pl 0)) (fun _ => x.testBit 2) (fun _ => x.testBit 3) = fx (bef o (pl 0)) A f) (hf2 : ∃ A : Asg, h4x (o (pl 0)) (o (pl 1)) x = fx (bef o (pl 1)) A f) (nd0 : ¬ dep (iteF (o (pl 0)) (fun _ => x.testBit 0) (fun _ => x.testBit 1)) (o (pl 1))) (nd1 : ¬ dep (iteF (o (pl 0)) (fun _ => x.testBit 2) (fun _ => x.testBit 3)) (o (pl 1))) (cfh : CF (o (pl 0)) (o (pl 1)) g D (I 34)) (pot : POT (o (pl 0)) s g (S 10) (I 34))
    {Q : Int32 → PS → Prop} (hQ : ∀ (u' : PS) (m : Nat) (ad' S' : Nat → Nat) (I' : Nat → Nat → Nat) (ln' : Nat → Nat) (z' : Nat × Nat) (g' : Nat → Nat) (D' : Nat → Fn), DG L E R B e o rt g0 D0 f ad' S' I' ln' z' u' g' D' → IN g' m → D' m = h4x (o (pl 0)) (o (pl 1)) x → CF (o (pl 0)) (o (pl 1)) g' D' (I' 34) → POT (o (pl 0)) s g' (S' 10) (I' 34) → FQ 34 ad S I ln ad' S' I' ln' → KP g D g' D' → Q (nI m) u') : p_G_ofFour (ad 3) (nI x) u Q := by
  have h := hg.1
  have hc := hg.2.2.2.2.1
  have r34 := h.ia 34 (by decide) (ii (by decide)) (j := x) (by omega) (by omega)
  unfold p_G_ofFour
  refine ⟨_, h.fG (by decide) rfl, _, r34, ?_⟩
  by_cases c : I 34 x = NON
  · refine brn_t (by rw [c]; exact non_m1) ?_
    obtain ⟨w0, w1, w2, w3⟩ := four_b x hx
    have r30 := h.ia 30 (by decide) (ii (by decide)) (j := 0) (by omega) (by omega)
    rw [e0] at r30
    rw [w0, w1, w2, w3]
    have B0' := hc.bit (x.testBit 0)
    have B1' := hc.bit (x.testBit 1)
    have le0 := pot.le
    refine ⟨_, h.fG (by decide) rfl, _, h.fG (by decide) rfl, _, r30, h.obN (by decide), hg.mk ho p0 B0'.1 B1'.1 (by rw [B0'.2]; exact const_dep _ _) (by rw [B1'.2]; exact const_dep _ _) (by rw [B0'.2, B1'.2]; exact hf0) (Or.inl (by omega)) (by omega) (fun u1 m1 ad1 S1 I1 ln1 z1 g1 D1 v1 v2 v3 v4 v5 v6 v7 v8 v9 => ?_)⟩
    rw [B0'.2, B1'.2] at v3
    have pot1 : POT (o (pl 0)) s g1 (S1 10) (I1 34) := by rw [v5.1 34 (by decide)]; exact pot.bit v4 _ _ v7 v8 v9
    have le1 := pot1.le
    have hc1 := v1.2.2.2.2.1
    have r30b := v1.1.ia 30 (by decide) (ii (by decide)) (j := 0) (by rw [(v6 30 (by decide)).2]; omega) (by rw [(v6 30 (by decide)).2]; omega)
    rw [v5.1 30 (by decide), e0] at r30b
    rw [← (v6 3 (by decide)).1]
    have B2' := hc1.bit (x.testBit 2)
    have B3' := hc1.bit (x.testBit 3)
    refine ⟨_, v1.1.fG (by decide) rfl, _, v1.1.fG (by decide) rfl, _, r30b, v1.1.obN (by decide), v1.mk ho p0 B2'.1 B3'.1 (by rw [B2'.2]; exact const_dep _ _) (by rw [B3'.2]; exact const_dep _ _) (by rw [B2'.2, B3'.2]; exact hf1) (Or.inl (by omega)) (by omega) (fun u2 m2 ad2 S2 I2 ln2 z2 g2 D2 y1 y2 y3 y4 y5 y6 y7 y8 y9 => ?_)⟩
    rw [B2'.2, B3'.2] at y3
    have pot2 : POT (o (pl 0)) s g2 (S2 10) (I2 34) := by rw [y5.1 34 (by decide)]; exact pot1.bit y4 _ _ y7 y8 y9
    have le2 := pot2.le
    have fa2 := v6.tr y6
    have fn2 := v5.tr y5
    have k2 := v4.tr y4
    have m1in : IN g2 m1 := (y4 m1 v2).1
    have m1D : D2 m1 = iteF (o (pl 0)) (fun _ => x.testBit 0) (fun _ => x.testBit 1) := by rw [(y4 m1 v2).2.1]; exact v3
    have r30c := y1.1.ia 30 (by decide) (ii (by decide)) (j := 1) (by rw [(fa2 30 (by decide)).2]; omega) (by rw [(fa2 30 (by decide)).2]; omega)
    rw [fn2.1 30 (by decide), e1] at r30c
    rw [← (y6 3 (by decide)).1]
    have hit : iteF (o (pl 1)) (D2 m1) (D2 m2) = h4x (o (pl 0)) (o (pl 1)) x := by rw [m1D, y3]; rfl
    refine ⟨_, y1.1.fG (by decide) rfl, _, y1.1.fG (by decide) rfl, _, y1.1.fG (by decide) rfl, _, r30c, y1.1.obN (by decide), y1.mk ho p1 m1in y2 (by rw [m1D]; exact nd0) (by rw [y3]; exact nd1) (by rw [hit]; exact hf2) (Or.inl (by omega)) (by omega) (fun u3 m3 ad3 S3 I3 ln3 z3 g3 D3 t1 t2 t3 t4 t5 t6 t7 t8 t9 => ?_)⟩
    rw [hit] at t3
    have fa3 := fa2.tr t6
    have fn3 := fn2.tr t5
    have l34' : ln3 34 = 16 := by rw [(fa3 34 (by decide)).2]; exact l34
    obtain ⟨u4, s4, k4⟩ := t1.1.isx 34 (by decide) (ii (by decide)) (j := x) (by omega) (by omega) m3
    have r34b := k4.ia 34 (by decide) (ii (by decide)) (j := x) (by omega) (by omega)
    rw [up_eq, up_eq] at r34b
    rw [← (t6 34 (by decide)).1]
    refine ⟨u4, s4, ?_⟩
    unfold p_G_ofFour_J75
    rw [← (t6 3 (by decide)).1]
    have i34 : I3 34 = I 34 := fn3.1 34 (by decide)
    have m3n : m3 ≠ NON := fun q => by have := t1.2.2.2.2.1.inlt t2; unfold NON at q; omega
    refine ⟨_, k4.fG (by decide) rfl, _, r34b, hQ u4 m3 ad3 S3 _ ln3 z3 g3 D3 (t1.put k4 (fun i q1 q2 => up_ne _ _ (by omega))) t2 t3 (fun y hy => ?_) ?_ ((FQ.of fn3 fa3).tr (FQ.is (by decide) _)) (k2.tr t4)⟩
    · rw [up_eq]
      by_cases d : y = x
      · subst d; rw [up_eq]; exact Or.inr ⟨t2, t3⟩
      · rw [up_ne _ _ d, i34]; exact (cfh.kp (k2.tr t4)) y hy
    · rw [up_eq, i34]
      have i34b : I2 34 = I 34 := fn2.1 34 (by decide)
      rw [i34b] at pot2
      obtain ⟨a, b, a1, b1, a3, a4, a5⟩ := pot2
      refine ⟨a, b, a1, b1, ?_, fun q => code_kp t4 (cd_ne (by decide)) (a4 q), fun q => code_kp t4 (cd_ne (by decide)) (a5 q)⟩
      rw [cf_up hx c m3n]
      by_cases d : nd4 x = true
      · rw [if_pos d]; omega
      · have d' : nd4 x = false := by cases q : nd4 x; rfl; exact absurd q d
        obtain ⟨q1, q2⟩ := nd4_f x hx d'
        have : m1 = m2 := y1.2.2.2.2.1.inj m1in y2 (by rw [m1D, y3, q1, q2])
        rw [if_neg d, t8 (Or.inl this)]; omega
  · rcases cfh x hx with q | ⟨q1, q2⟩
    · exact absurd q c
    · have lt := hc.inlt q1
      refine brn_f (fun w => c ((nI_eqI (by omega) (by decide)).mp (w.trans non_m1.symm))) ?_
      unfold p_G_ofFour_J75
      exact ⟨_, h.fG (by decide) rfl, _, r34, hQ u _ ad S I ln z g D hg q1 q2 cfh pot (FQ.rf 34 ad S I ln) (KP.rf g D)⟩
end DR3
