/-! Diagrams: sink(), settle() -/
section DS2
variable {L : Nat → Nat → Int64} {E : (Nat → Prop) × (Nat → Option PE)} {R : Nat × Nat} {o r : Nat → Nat} {F : Nat → Nat → Bool} {rt ad S : Nat → Nat} {I : Nat → Nat → Nat} {ln : Nat → Nat} {z : Nat × Nat} {u : PS} {e x pl mt t : Nat} {g : Nat → Nat} {D0 : Nat → Fn}
theorem q_D_sink_L11 (h : VC 69 ad S I ln L E z u) (l9 : ln 9 = 10) (l37 : ln 37 = 10) (hr : PR9 r x) (hmt : mt < 1024) (h37 : ∀ j : Nat, j < 9 → I 37 j = r j) (hb9 : ∀ j : Nat, j < 9 → I 9 (r j) < 100000) {x1 : Int32} {X : Int32 → Int32 → PS → Prop} (hX : X (iZ ((dH mt pl r (fun j => I 9 (r j)) 9 : Int) - 1)) (nI (dC mt pl r 9)) u) : ∀ (d i : Nat), i + d = 9 → pl ≤ i → p_D_sink_L11 (ad 2) x1 (nI mt) X (d + 1) (iZ ((dH mt pl r (fun j => I 9 (r j)) i : Int) - 1)) (nI (dC mt pl r i)) (nI i) u := by
  intro d
  induction d with
  | zero =>
    intro i hi hp
    obtain rfl : i = 9 := by omega
    rw [p_D_sink_L11]
    exact pk_le 9 9 (fun _ => hX) (fun w => absurd w (by omega))
  | succ d ih =>
    intro i hi hp
    rw [p_D_sink_L11]
    refine pk_le 9 i (fun w => absurd w (by omega)) (fun _ => ?_)
    have r37 := h.ia 37 (by decide) (ii (by decide)) (j := i) (by omega) (by omega)
    rw [h37 i (by omega)] at r37
    have hy := hr.1 i (by omega)
    refine ⟨_, h.fD (by decide) rfl, _, r37, ?_⟩
    rw [tb_mate hmt hy.1]
    have hh := ih (i + 1) (by omega) (by omega)
    rw [dC_s, dH_s] at hh
    cases hb : mt.testBit (r i)
    · refine ⟨fun _ => ?_, fun w => absurd w (by decide)⟩
      unfold p_D_sink_J54
      refine nm_e ?_
      rw [nI_1]
      rw [hb, if_neg (fun w => absurd w.2 (by decide)), if_neg (fun w => absurd w.2 (by decide))] at hh
      exact hh
    · refine ⟨fun w => absurd rfl w, fun _ => ⟨_, h.fD (by decide) rfl, h.obN (by decide), q_N_asksFor h l9 hy.1 ⟨by decide, nm_e (nm_e ?_)⟩⟩⟩
      have p1 := hb9 i (by omega)
      unfold p_D_sink_J54
      refine nm_e ?_
      rw [nI_1, nI_1]
      rw [hb, if_pos ⟨hp, rfl⟩, if_pos ⟨hp, rfl⟩] at hh
      have e1 : iZ ((dH mt pl r (fun j => I 9 (r j)) i : Int) - 1) + (nI (I 9 (r i)) / (2 : Int32)) = iZ (((dH mt pl r (fun j => I 9 (r j)) i + I 9 (r i) / 2 : Nat) : Int) - 1) := by
        rw [show (2 : Int32) = nI 2 from rfl, pk_div (by omega) (by decide) (by decide), iZ_n, iZ_add]
        congr 1
        omega
      rw [e1]
      exact hh
theorem q_D_sink (h : NS L E R B0 o F rt ad S I ln z u e g D0) (ho : PO o) (hins : insO r pl x = o) (hr : PR9 r x) (hx : x < 10) (hpl : pl < 10) (hm : MTS F x mt) (hxa : ∃ p : Nat, p < 24 ∧ dep (fnOf (F p)) x) (l37 : ln 37 = 10) (h37 : ∀ j : Nat, j < 9 → I 37 j = r j) (ts : TSH ln t) (hte : t ≤ e) (hmk2 : ∀ n : Nat, I 25 n ≤ S 14) (h4 : S 4 = pl) (hmin : MIN (Wc F r x) 0 pl (S 6) (S 5))
    {Q : PS → Prop} (hQ : ∀ (u' : PS) (e' t' : Nat) (ad' S' : Nat → Nat) (I' : Nat → Nat → Nat) (ln' : Nat → Nat) (z' : Nat × Nat), NS L E R B0 o F rt ad' S' I' ln' z' u' e' g D0 → FTB ad S I ln ad' S' I' ln' → TSH ln' t' → t' ≤ e' → (∀ n : Nat, I' 25 n ≤ S' 14) → S' 14 = S 14 → MI2 (Wc F r x) 9 (S' 6) (S' 5) → Q u') : p_D_sink (ad 2) (nI x) (nI mt) u Q := by
  obtain ⟨a1, a2, a3, a4, a5, a6⟩ := id h
  have l9 : ln 9 = 10 := a2.2.2.1.2.2.1
  have hxo : o pl = x := by rw [← hins]; exact insO_at r pl x
  have h9 : ∀ j : Nat, pl ≤ j → j < 9 → I 9 (r j) = lvB F r x j := fun j hj1 hj2 => by
    have e1 : o (j + 1) = r j := by
      rw [← hins]
      unfold insO
      rw [if_neg (by omega), if_neg (by omega)]
      congr 1
    have := h.nq ho (j := j + 1) (by omega)
    rw [e1, ← hins, lv_hi hj1] at this
    exact this
  have asm : ∀ k : Nat, k < 10 → I 9 k ≤ 16384 := fun k hk => MBR.le a3.2.2.2.2.2.2.1 (N := 16384) (fun n hn => by have := a3.2.2.1 n hn.1; have := a3.2.2.2.1; have := a2.le; omega) hk
  have eH : dH mt pl r (fun j => I 9 (r j)) 9 = dH mt pl r (lvB F r x) 9 := by
    have key : ∀ n : Nat, n ≤ 9 → dH mt pl r (fun j => I 9 (r j)) n = dH mt pl r (lvB F r x) n := by
      intro n
      induction n with
      | zero => intro _; rfl
      | succ n ih =>
        intro hn
        rw [dH_s, dH_s, ih (by omega)]
        by_cases q : pl ≤ n ∧ mt.testBit (r n) = true
        · rw [if_pos q, if_pos q, h9 n q.1 (by omega)]
        · rw [if_neg q, if_neg q]
    exact key 9 (Nat.le_refl _)
  have mi0 : MI2 (Wc F r x) pl (S 6) (S 5) := ⟨hmin.1, hmin.2.2.1, fun q hq => hmin.2.2.2.1 q (by omega) hq, fun q hq => hmin.2.2.2.2 q (by omega) hq⟩
  have mc9 : dC mt pl r 9 ≤ 10 := by
    unfold dC
    have := sumTo_bd (f := fun j => if pl ≤ j ∧ mt.testBit (r j) = true then 1 else 0) (b := 1) (fun m => by split <;> omega) 9
    omega
  have lstl : S 6 ≤ 3324 := by
    have := hmin.2.2.2.1 pl (by omega) (Nat.le_refl _)
    have := W_le (F := F) hr hx hpl
    omega
  have hsz : S 10 = Wc F r x pl := by rw [h.size ho, ← hins]; rfl
  have wl := W_le (F := F) hr hx hpl
  have xl := X_le (F := F) hr hx hpl
  have bl := B_sum (F := F) hr hx
  have hl9 := dH_le mt pl r (lvB F r x) 9
  have hax : I 9 x = lvX F r x pl := by
    have := h.nq ho (j := pl) hpl
    rw [hxo, ← hins, lv_mid] at this
    exact this
  have noth : ∀ hq : (∀ q : Nat, pl < q → q ≤ 9 → S 6 ≤ Wc F r x q), Q u := fun hq => hQ u e t ad S I ln z h ⟨fun _ _ => ⟨rfl, rfl, rfl⟩, fun _ _ _ _ _ _ _ _ => rfl, fun _ hb => hb⟩ ts hte hmk2 rfl (mi0.all hq (by omega))
  obtain ⟨p0, hp0, hd0⟩ := id hxa
  unfold p_D_sink
  refine ⟨_, a1.fD (by decide) rfl, ?_⟩
  rw [h4]
  have L11 := q_D_sink_L11 (pl := pl) (r := r) (x := x) (mt := mt) a1 l9 l37 hr hm.1 h37 (fun j hj => by have := asm _ (hr.1 j hj).1; omega) (x1 := nI x) (X := fun y3 y4 u13 => p_D_sink_J60 Q (ad 2) (nI x) (nI mt) y3 y4 u13) ?_ (9 - pl) pl (by omega) (Nat.le_refl _)
  · refine ⟨9 - pl + 1, ?_⟩
    rw [dH_0 mt pl r _ pl (Nat.le_refl _), dC_0 mt pl r pl (Nat.le_refl _)] at L11
    have e0 : iZ (((0 : Nat) : Int) - 1) = (-1 : Int32) := by decide
    rw [e0] at L11
    exact L11
  · rw [eH]
    unfold p_D_sink_J60
    refine ⟨_, a1.fD (by decide) rfl, a1.obN (by decide), ?_⟩
    unfold p_N_wholeSize
    refine ⟨_, a1.fN (by decide) rfl, ?_⟩
    rw [hsz]
    refine ⟨fun w => ?_, fun w => ?_⟩
    · have w0 : dC mt pl r 9 = 0 := (nI_0I (by omega)).mp w
      refine noth (fun q q1 q2 => ?_)
      have k1 := dC_mono mt pl r pl (q - pl)
      have k2 := dC_mono mt pl r q (9 - q)
      rw [show pl + (q - pl) = q by omega] at k1
      rw [show q + (9 - q) = 9 by omega] at k2
      have k3 := W_none2 (F := F) (pl := pl) hr hm (q - pl) pl (Nat.le_refl _) (by omega) (by rw [show pl + (q - pl) = q by omega]; omega)
      rw [show pl + (q - pl) = q by omega] at k3
      rw [k3]
      exact hmin.2.2.2.1 pl (by omega) (Nat.le_refl _)
    · have w0 : dC mt pl r 9 ≠ 0 := fun q => w (by rw [q]; rfl)
      have hpl9 : pl < 9 := by
        refine Classical.byContradiction (fun q => w0 ?_)
        exact dC_0 mt pl r 9 (by omega)
      refine ⟨_, a1.fD (by decide) rfl, a1.obN (by decide), q_N_asksFor a1 l9 hx ?_⟩
      refine ⟨_, a1.fD (by decide) rfl, ?_⟩
      rw [hax]
      have ecmp : (nI (Wc F r x pl) - iZ ((dH mt pl r (lvB F r x) 9 : Int) - 1)) - nI (lvX F r x pl) = iZ ((Wc F r x pl : Int) - ((dH mt pl r (lvB F r x) 9 : Int) - 1) - (lvX F r x pl : Int)) := by
        rw [iZ_n (Wc F r x pl), iZ_n (lvX F r x pl), iZ_sub, iZ_sub]
      rw [ecmp, iZ_n (S 6)]
      have hiff := iZ_lt (a := (Wc F r x pl : Int) - ((dH mt pl r (lvB F r x) 9 : Int) - 1) - (lvX F r x pl : Int)) (b := (S 6 : Int)) (by omega) (by omega) (by omega) (by omega)
      refine ⟨fun _ => ?_, fun w2 => ?_⟩
      · refine ⟨_, a1.fD (by decide) rfl, _, a1.fD (by decide) rfl, _, a1.fD (by decide) rfl, a1.obT (by decide), ?_⟩
        rw [h4]
        refine q_T_startSinking a1 a2 ts hte a3 a4 a5 ho hpl9 hx hr hins l37 h37 (fun u1 ad1 S1 I1 ln1 z1 b1 b2 b3 b4 b5 b6 b7 b8 b9 b10 => ?_)
        have E2 : ad1 2 = ad 2 := (b6.1 2 (by omega)).1
        rw [← E2]
        refine ⟨_, b1.fD (by decide) rfl, 9 - pl + 1, ?_⟩
        have S14 : S1 4 = pl := by rw [b6.2.1 4 (by decide) (by decide) (by decide) (by decide) (by decide)]; exact h4
        rw [S14, E2]
        obtain ⟨n1', n2'⟩ := b5.num hr hx hpl
        rw [n1', n2'] at b5
        have hbm : ∀ n : Nat, I1 25 n ≤ S 14 := fun n => by
          rcases b10 n with w3 | w3
          · rw [w3]; exact hmk2 n
          · rw [w3]; omega
        have L117 := q_D_sink_L117 (ad0 := ad) (S0 := S) (I0 := I) (ln0 := ln) (f0 := S 9) (mk0 := S 14) (R := R) (X := fun u46 => p_D_sink_J228 Q (ad 2) u46) a5 ho hins hr hx hpl hm hxa l37 h37 h9 (fun u2 lst bb c e2 ad2 S2 I2 ln2 z2 gt2 gg2 D2 c2 c3 c4 c5 c7 c8 c9 c10 => ?_) (9 - pl) pl (S 6) (S 5) u1 e ad1 S1 I1 ln1 z1 g g D0 (by omega) (Nat.le_refl _) ⟨b1, b2, b3, b4, b5⟩ (by rw [b6.2.1 6 (by decide) (by decide) (by decide) (by decide) (by decide)]) (by rw [b6.2.1 5 (by decide) (by decide) (by decide) (by decide) (by decide)]) mi0 (FTB.of b6) b8 b9 hbm (by rw [b7]; unfold B0 at a6; omega)
        · rw [dH_0 mt pl r _ pl (Nat.le_refl _), dC_0 mt pl r pl (Nat.le_refl _)] at L117
          have e0 : ((dH mt pl r (lvB F r x) 9 : Int) - ((0 : Nat) : Int) - 1) = (dH mt pl r (lvB F r x) 9 : Int) - 1 := by omega
          rw [e0, Nat.sub_zero] at L117
          exact L117
        · unfold p_D_sink_J228
          obtain ⟨d1, d2, d3, d4, d5⟩ := c2
          have E22 : ad2 2 = ad 2 := (c7.1 2 (by omega)).1
          rw [← E22]
          refine ⟨_, d1.fD (by decide) rfl, d1.obT (by decide), ?_⟩
          refine q_T_end d1 d2 d5.1 c8 (fun u3 hd v1 v2 => ?_)
          have hns : NS L E R B0 o F rt ad2 (va_up S2 9 (S 9)) (va_up I2 12 hd) ln2 z2 u3 e2 g D0 := ⟨v1, d2.s rfl, v2, d4, a5, by rw [up_eq]; exact a6⟩
          have hss : ∀ s : Nat, s ≠ 9 → va_up S2 9 (S 9) s = S2 s := fun s q => up_ne _ _ q
          refine hQ u3 e2 e2 ad2 _ (va_up I2 12 hd) ln2 z2 hns ⟨fun i hi => ?_, fun s w1 w2 w3 w4 w5 w6 w7 => ?_, fun b hb n => c7.2.2 b hb n⟩ d3 (Nat.le_refl _) (fun n => by rw [hss 14 (by decide), c9]; exact c10 n) (by rw [hss 14 (by decide), c9]) (by rw [hss 6 (by decide), hss 5 (by decide), c3, c4]; exact c5)
          · have := c7.1 i hi
            exact ⟨this.1, this.2.1, by rw [up_ne _ _ (by omega)]; exact this.2.2⟩
          · rw [hss s w4, c7.2.1 s w1 w2 w3 w4 w5 w6 w7]
      · have w3 : ¬ ((Wc F r x pl : Int) - ((dH mt pl r (lvB F r x) 9 : Int) - 1) - (lvX F r x pl : Int) < (S 6 : Int)) := fun q => w2 (hiff.mpr q)
        refine noth (fun q q1 q2 => ?_)
        have k1 := W_dn (F := F) (pl := pl) hr hx hm (q - pl) pl (Nat.le_refl _) (by omega)
        rw [show pl + (q - pl) = q by omega, dH_0 mt pl r _ pl (Nat.le_refl _)] at k1
        have k2 := lvX_pos (F := F) hr hx q2 hp0 hd0
        have k3 := dH_mono mt pl r (lvB F r x) q (9 - q)
        rw [show q + (9 - q) = 9 by omega] at k3
        omega
end DS2
