/-! Diagrams: rise() -/
section DR4
variable {L : Nat → Nat → Int64} {E : (Nat → Prop) × (Nat → Option PE)} {R : Nat × Nat} {o r : Nat → Nat} {F : Nat → Nat → Bool} {rt ad S : Nat → Nat} {I : Nat → Nat → Nat} {ln : Nat → Nat} {z : Nat × Nat} {u : PS} {e x pl mt t : Nat} {g : Nat → Nat} {D0 : Nat → Fn}
theorem MIN.all {s : Nat → Nat} {c pl lst bb : Nat} (h : MIN s c pl lst bb) (hq : ∀ q : Nat, q < c → lst < s q) : MIN s 0 pl lst bb := by
  obtain ⟨h1, h2, h3, h4, h5⟩ := h
  refine ⟨h1, by omega, h3, fun q _ q2 => ?_, fun q _ q2 => ?_⟩
  · by_cases w : q < c
    · have := hq q w; omega
    · exact h4 q (by omega) q2
  · by_cases w : q < c
    · exact hq q w
    · exact h5 q (by omega) q2
theorem q_D_rise_J199 (h : NS L E R B0 o F rt ad S I ln z u e g D0) (hr : PR9 r x) (hm : MTS F x mt) (hx : x < 10) {c : Nat} (hc : c ≤ pl) (hpl : pl < 10) (hmin : MIN (Wc F r x) c pl (S 6) (S 5)) (hor : mC mt r c = 0 ∨ ∀ q : Nat, q < c → S 6 < Wc F r x q) {Q : PS → Prop} (hQ : ∀ (u' : PS) (S' : Nat → Nat), NS L E R B0 o F rt ad S' I ln z u' e g D0 → (∀ s : Nat, s ≠ 5 → S' s = S s) → MIN (Wc F r x) 0 pl (S' 6) (S' 5) → Q u') : p_D_rise_J199 Q (ad 2) (nI (mC mt r c)) (nI (Wc F r x c)) u := by
  have mc9 : mC mt r c ≤ 10 := by
    unfold mC
    have := sumTo_bd (f := fun j => if mt.testBit (r j) then 1 else 0) (b := 1) (fun m => by split <;> omega) c
    omega
  have wl := W_le (F := F) hr hx (show c < 10 by omega)
  have h6c := hmin.2.2.2.1 c (Nat.le_refl _) hc
  unfold p_D_rise_J199
  refine ⟨fun w => ?_, fun w => ?_⟩
  · have w0 : mC mt r c ≠ 0 := fun q => w (by rw [q]; rfl)
    exact hQ u S h (fun _ _ => rfl) (hmin.all (hor.resolve_left w0))
  · have w0 : mC mt r c = 0 := (nI_0I (by omega)).mp w
    have same := W_none (F := F) hr hm c (by omega) w0
    refine ⟨_, h.1.fD (by decide) rfl, pk_lt (S 6) (Wc F r x c) (fun q => ?_) (fun q => ?_)⟩
    · exact hQ u S h (fun _ _ => rfl) (hmin.all (fun q2 hq2 => by rw [same q2 (by omega)]; exact q))
    · obtain ⟨u1, s1, h1⟩ := h.1.sD (by decide) 11 5 0 (by decide) rfl rfl rfl rfl
      obtain ⟨a1, a2, a3, a4, a5, a6⟩ := h
      refine ⟨u1, s1, hQ u1 _ ⟨h1, a2.s rfl, a3.cong (fun _ _ _ _ _ => rfl) rfl rfl rfl (fun _ _ => rfl), a4, a5, a6⟩ (fun s hs => up_ne _ _ hs) ?_⟩
      show MIN (Wc F r x) 0 pl (S 6) 0
      obtain ⟨m1, m2, m3, m4, m5⟩ := hmin
      refine ⟨by rw [same 0 (by omega)]; omega, Nat.le_refl _, by omega, fun q2 _ q3 => ?_, fun q2 _ q3 => absurd q3 (by omega)⟩
      by_cases w2 : q2 < c
      · rw [same q2 (by omega)]; omega
      · exact m4 q2 (by omega) q3
theorem q_D_rise (h : NS L E R B0 o F rt ad S I ln z u e g D0) (ho : PO o) (hins : insO r pl x = o) (hr : PR9 r x) (hx : x < 10) (hpl : pl < 10) (hm : MTS F x mt) (ht : MTT F mt) (hxa : ∃ p : Nat, p < 24 ∧ dep (fnOf (F p)) x) (l37 : ln 37 = 10) (h37 : ∀ j : Nat, j < 9 → I 37 j = r j) (ts : TSH ln t) (hte : t ≤ e) (hmk : S 14 + 1 < 2 ^ 31) (hmk2 : ∀ n : Nat, I 25 n ≤ S 14) (h4 : S 4 = pl) (h5 : S 5 = pl) (h6 : S 6 = Wc F r x pl)
    {Q : PS → Prop} (hQ : ∀ (u' : PS) (e' t' : Nat) (ad' S' : Nat → Nat) (I' : Nat → Nat → Nat) (ln' : Nat → Nat) (z' : Nat × Nat), NS L E R B0 o F rt ad' S' I' ln' z' u' e' g D0 → FTB ad S I ln ad' S' I' ln' → TSH ln' t' → t' ≤ e' → (∀ n : Nat, I' 25 n ≤ S' 14) → S' 14 ≤ S 14 + 1 → MIN (Wc F r x) 0 pl (S' 6) (S' 5) → Q u') : p_D_rise (ad 2) (nI x) (nI mt) u Q := by
  obtain ⟨a1, a2, a3, a4, a5, a6⟩ := id h
  have l9 : ln 9 = 10 := a2.2.2.1.2.2.1
  have h9 : ∀ j : Nat, j < pl → I 9 (r j) = lvA F r j := fun j hj => by
    have e1 : o j = r j := by rw [← hins]; exact ins_lt r x hj
    have := h.nq ho (j := j) (by omega)
    rw [e1, ← hins, lv_lo hj] at this
    exact this
  have hN0 : ∀ j : Nat, j < pl → mt.testBit (r j) = true → 1 ≤ lvA F r j := fun j hj hb => by
    obtain ⟨p, hp, hd⟩ := ht _ (hr.1 j (by omega)).1 hb
    exact lvA_pos (F := F) hr hx (by omega) hp hd
  have eS : mS' mt r (fun j => I 9 (r j)) pl = mS' mt r (lvA F r) pl := by
    have key : ∀ n : Nat, n ≤ pl → mS' mt r (fun j => I 9 (r j)) n = mS' mt r (lvA F r) n := by
      intro n
      induction n with
      | zero => intro _; rfl
      | succ n ih => intro hn; rw [mS_s, mS_s, ih (by omega), h9 n (by omega)]
    exact key pl (Nat.le_refl _)
  have mc9 : mC mt r pl ≤ 10 := by
    unfold mC
    have := sumTo_bd (f := fun j => if mt.testBit (r j) then 1 else 0) (b := 1) (fun m => by split <;> omega) pl
    omega
  have min0 : MIN (Wc F r x) pl pl (Wc F r x pl) pl := ⟨rfl, Nat.le_refl _, Nat.le_refl _, fun q q1 q2 => by rw [show q = pl by omega]; exact Nat.le_refl _, fun q q1 q2 => absurd q2 (by omega)⟩
  unfold p_D_rise
  have L8 := q_D_rise_L8 (pl := pl) (r := r) (x := x) (mt := mt) a1 l9 l37 hr hm.1 h4 hpl h37 (fun j hj hb => by rw [h9 j hj]; exact hN0 j hj hb) (x1 := nI x) (X := fun y3 y4 u13 => p_D_rise_J59 Q (ad 2) (nI x) (nI mt) y3 y4 u13) ?_ pl 0 (by omega)
  · refine ⟨pl + 1, ?_⟩
    have e0 : iZ ((mS' mt r (fun j => I 9 (r j)) 0 : Int) - 1) = (-1 : Int32) := by
      show iZ ((0 : Int) - 1) = -1
      decide
    rw [e0] at L8
    exact L8
  · rw [eS]
    unfold p_D_rise_J59
    refine ⟨_, a1.fD (by decide) rfl, ?_⟩
    rw [h6]
    refine pk_le (mC mt r pl) 0 (fun w => ?_) (fun w => ?_)
    · refine q_D_rise_J199 h hr hm hx (Nat.le_refl _) hpl (by rw [h6, h5]; exact min0) (Or.inl (by omega)) (fun u1 S1 q1 q2 q3 => ?_)
      refine hQ u1 e t ad S1 I ln z q1 ⟨fun _ _ => ⟨rfl, rfl, rfl⟩, fun s a _ _ _ _ _ _ => q2 s a, fun _ hb => hb⟩ ts hte (fun n => by rw [q2 14 (by decide)]; exact hmk2 n) (by rw [q2 14 (by decide)]; omega) q3
    · refine ⟨_, a1.fD (by decide) rfl, a1.obT (by decide), ?_⟩
      refine q_T_startRising a1 a2 ts hte a3 a4 a5 hx hins hmk hmk2 (fun u1 ad1 S1 I1 ln1 z1 b1 b2 b3 b4 b5 b6 b7 b8 b9 => ?_)
      have E2 : ad1 2 = ad 2 := (b6.1 2 (by omega)).1
      rw [← E2]
      refine ⟨_, b1.fD (by decide) rfl, nm_e ⟨pl + 1, ?_⟩⟩
      have S14 : S1 4 = pl := by rw [b6.2.1 4 (by decide) (by decide) (by decide) (by decide) (by decide)]; exact h4
      have S16 : S1 6 = Wc F r x pl := by rw [b6.2.1 6 (by decide) (by decide) (by decide) (by decide) (by decide)]; exact h6
      have S15 : S1 5 = pl := by rw [b6.2.1 5 (by decide) (by decide) (by decide) (by decide) (by decide)]; exact h5
      rw [S14]
      have e1 : nI pl - (1 : Int32) = nI pl + (-1) := by rw [Int32.sub_eq_add_neg]
      rw [e1, E2]
      obtain ⟨n1', n2'⟩ := b5.num hr hx hpl
      rw [n1', n2'] at b5
      have sl := A_sum (F := F) hr hx hpl
      refine q_D_rise_L86 (ad0 := ad) (S0 := S1) (I0 := I) (ln0 := ln) (f0 := S 9) a5 ho hins hr hx hpl hm ht hxa l37 h37 h9 hN0 (fun u2 c lst bb e2 ad2 S2 I2 ln2 z2 gt2 gg2 D2 c1 c2 c3 c4 c5 c6 c7 c8 c9 => ?_) pl (Wc F r x pl) pl u1 e ad1 S1 I1 ln1 z1 g g D0 (Nat.le_refl _) ⟨b1, b2, b3, b4, b5⟩ S16 S15 min0 ⟨b6.1, fun s _ _ _ _ _ _ _ => ?_, b6.2.2⟩ (by rw [b8]) rfl (by rw [b7]; unfold B0 at a6; omega)
      · unfold p_D_rise_J192
        obtain ⟨d1, d2, d3, d4, d5⟩ := c2
        have E22 : ad2 2 = ad 2 := (c7.1 2 (by omega)).1
        rw [← E22]
        refine ⟨_, d1.fD (by decide) rfl, d1.obT (by decide), ?_⟩
        refine q_T_end d1 d2 d5.1 c8 (fun u3 hd v1 v2 => ?_)
        have hns : NS L E R B0 o F rt ad2 (va_up S2 9 (S 9)) (va_up I2 12 hd) ln2 z2 u3 e2 g D0 := ⟨v1, d2.s rfl, v2, d4, a5, by rw [up_eq]; exact a6⟩
        have hss : ∀ s : Nat, s ≠ 9 → va_up S2 9 (S 9) s = S2 s := fun s q => up_ne _ _ q
        refine q_D_rise_J199 hns hr hm hx c1 hpl (by rw [hss 6 (by decide), hss 5 (by decide), c3, c4]; exact c5) (by rw [hss 6 (by decide), c3]; exact c6) (fun u4 S4 q1 q2 q3 => ?_)
        have k7 := d5.2.2.2.2.2.2.2.2.2.2.1
        have q14 : S4 14 = S2 14 := by rw [q2 14 (by decide), hss 14 (by decide)]
        refine hQ u4 e2 e2 ad2 S4 (va_up I2 12 hd) ln2 z2 q1 ⟨fun i hi => ?_, fun s w1 w2 w3 w4 w5 w6 w7 => ?_, fun b hb n => c7.2.2 b hb n⟩ d3 (Nat.le_refl _) (fun n => by rw [q14]; exact k7.2 n) (by rw [q14, c9, b9]; exact Nat.le_refl _) q3
        · have := c7.1 i hi
          exact ⟨this.1, this.2.1, by rw [up_ne _ _ (by omega)]; exact this.2.2⟩
        · rw [q2 s w1, hss s w4, c7.2.1 s w1 w2 w3 w4 w5 w6 w7, b6.2.1 s w3 w4 w5 w6 w7]
      · rfl
end DR4
