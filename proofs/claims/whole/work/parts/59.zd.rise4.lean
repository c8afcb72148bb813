/-! rising by trial: a step, its start -/
theorem bef_congr {o o' : Nat → Nat} {j : Nat} (h : ∀ l : Nat, l < j → o' l = o l) : bef o' j = bef o j := by
  funext k
  cases hb : bef o j k
  · cases hc : bef o' j k
    · rfl
    · obtain ⟨l, hl, e⟩ := bef_iff.mp hc
      rw [bef_iff.mpr ⟨l, hl, by rw [← h l hl]; exact e⟩] at hb
      exact absurd hb (by decide)
  · obtain ⟨l, hl, e⟩ := bef_iff.mp hb
    exact bef_iff.mpr ⟨l, hl, by rw [h l hl]; exact e⟩
/-- two stores of the same functions agree where their orders begin alike -/
theorem ST.lev {o o' : Nat → Nat} {F : Nat → Nat → Bool} {g g' : Nat → Nat} {D D' : Nat → Fn} {rt : Nat → Nat} (h : ST o F g D rt) (h' : ST o' F g' D' rt) (ho : PO o) (ho' : PO o') {j : Nat} (hj : j < 10) (he : ∀ l : Nat, l ≤ j → o' l = o l) {m : Nat} (hm : g m ≠ 0) (hk : nk (g m) = o j) : ∃ m' : Nat, g' m' ≠ 0 ∧ nk (g' m') = o j ∧ D' m' = D m := by
  obtain ⟨p, hp, a, ea⟩ := h.sound ho j m hj hm hk
  obtain ⟨r1, r2⟩ := h'.2.1 p hp
  have hb : bef o' j = bef o j := bef_congr (fun l hl => he l (by omega))
  have hd : dep (fx (bef o' j) a (D' (rt p))) (o' j) := by
    rw [hb, r2, ← ea, he j (Nat.le_refl _), ← hk]
    exact h.1.dp hm
  obtain ⟨m', q1, q2, q3⟩ := h'.1.found ho' r1 hj hd
  exact ⟨m', q1, by rw [q2, he j (Nat.le_refl _)], by rw [q3, hb, r2, ea]⟩
section RS4
variable {ad S : Nat → Nat} {I : Nat → Nat → Nat} {ln : Nat → Nat} {L : Nat → Nat → Int64} {E : (Nat → Prop) × (Nat → Option PE)} {z R : Nat × Nat} {u : PS} {e f0 t : Nat} {g gt gg rt : Nat → Nat} {D D0 : Nat → Fn} {o r : Nat → Nat} {x pl c i N A : Nat} {F : Nat → Nat → Bool}
theorem q_T_riseAbove (h : VC 69 ad S I ln L E z u) (sh : SH R S ln z e) (ts : TSH ln e) (rc : RC e g rt (fun _ => 0) (I 8)) (hst : ST o F g D0 rt) (ho : PO o) (hr : PR9 r x) (hx10 : x < 10) (hi9 : i < 9) (hro : ∀ j : Nat, j ≤ i → o j = r j) (sk : RKS e f0 g rt o r x (i + 1) F D0 gt gg D N A S I ln) (hroom : S 9 + 2 * I 9 (r i) ≤ 16384)
    {Q : Int32 → PS → Prop} (hQ : ∀ (u' : PS) (e' : Nat) (ad' S' : Nat → Nat) (I' : Nat → Nat → Nat) (ln' : Nat → Nat) (z' : Nat × Nat) (gt' gg' : Nat → Nat) (D' : Nat → Fn) (N' A' : Nat) (ret : Int32), VC 69 ad' S' I' ln' L E z' u' → SH R S' ln' z' e' → TSH ln' e' → RC e' g rt (fun _ => 0) (I' 8) → RKS e' f0 g rt o r x i F D0 gt' gg' D' N' A' S' I' ln' → nI N + ret = nI N' → FTR ad S I ln ad' S' I' ln' → S 9 ≤ S' 9 → S' 9 ≤ S 9 + 2 * I 9 (r i) → S' 12 = S 12 → S' 14 = S 14 → Q ret u') : p_T_riseAbove (ad 5) (nI (r i)) u Q := by
  obtain ⟨tm, hct, hgst, k1, k2, k3, k3', k4, k5, k6, k7, hD0, hN, hA, hA13⟩ := sk
  obtain ⟨hcg, hrt, hL⟩ := id hgst
  have hy10 : r i < 10 := (hr.1 i hi9).1
  have hxy : r i ≠ x := (hr.1 i hi9).2
  have hs : SW (insO r (i + 1) x) (insO r i x) i := (ins_sw r x hi9).symm
  have hoc : PO (insO r (i + 1) x) := insO_PO hr hx10 (by omega)
  have ey : insO r (i + 1) x i = r i := ins_lt r x (by omega)
  have ex : insO r (i + 1) x (i + 1) = x := insO_at r (i + 1) x
  have hcg2 : CAN (W2 (insO r (i + 1) x) (insO r i x)) gg D := hcg.mono (fun n hn => Or.inl (hcg.w hn))
  have hs9 : S 9 ≤ 2 ^ e := tm.2.2.2.1.2.2
  have f09 : f0 ≤ S 9 := tm.2.2.2.1.2.1
  have hio : o i = r i := hro i (Nat.le_refl _)
  have s14 : 1 ≤ S 14 := by
    have a := k3' 0 (Or.inl (by omega))
    have b := k7.2 0
    omega
  have inT : ∀ q : Nat, IN gg q → IN gt q := fun q hq => by
    rcases hq with w | w
    · exact Or.inl w
    · exact Or.inr (k1 q w)
  have oco : ∀ l : Nat, l ≤ i → insO r (i + 1) x l = o l := fun l hl => by rw [ins_lt r x (by omega), hro l hl]
  -- the level of r i is the same in both
  have up1 : ∀ m : Nat, g m ≠ 0 → nk (g m) = r i → gg m ≠ 0 ∧ nk (gg m) = r i := fun m hm hk => by
    obtain ⟨m', q1, q2, q3⟩ := hst.lev hgst ho hoc (j := i) (by omega) oco hm (by rw [hio]; exact hk)
    have : m' = m := hct.inj (inT m' (Or.inr q1)) (tm.ing (Or.inr hm)) (by rw [q3, hD0 m (Or.inr hm)])
    subst this
    exact ⟨q1, by rw [q2, hio]⟩
  have up2 : ∀ m : Nat, gg m ≠ 0 → nk (gg m) = r i → g m ≠ 0 ∧ nk (g m) = r i := fun m hm hk => by
    obtain ⟨m', q1, q2, q3⟩ := hgst.lev hst hoc ho (j := i) (by omega) (fun l hl => (oco l hl).symm) hm (by rw [ey]; exact hk)
    have : m' = m := hct.inj (tm.ing (Or.inr q1)) (inT m (Or.inr hm)) (by rw [hD0 m' (Or.inr q1), q3])
    subst this
    exact ⟨q1, by rw [q2, ey]⟩
  have l9 : ln 9 = 10 := sh.2.2.1.2.2.1
  have r9 := h.ia 9 (by decide) (ii (by decide)) (j := r i) (by omega) (by omega)
  unfold p_T_riseAbove
  refine ⟨_, h.fT (by decide) rfl, _, h.fT (by decide) rfl, _, h.fN (by decide) rfl, _, h.fT (by decide) rfl, _, h.fN (by decide) rfl, _, r9, h.obN (by decide), ?_⟩
  have eN : nI (S 9) + ((2 : Int32) * nI (I 9 (r i))) = nI (S 9 + 2 * I 9 (r i)) := by
    rw [show (2 : Int32) = nI 2 from rfl, pk_mul, nI_add]
  rw [eN]
  refine q_N_roomT h sh tm rc hst.1 (fun p hp => (hst.2.1 p hp).1) hroom (fun u1 e1 ad1 S1 I1 ln1 z1 b0 b1 b2 b3 b4 b5 b6 b7 b8 b9 b10 b11 => ?_)
  have E5 : ad1 5 = ad 5 := (b6.1 5 (by omega)).1
  have ts1 : TSH ln1 e := by
    obtain ⟨t0, t1, t2, t3, t4, t5, t6⟩ := ts
    have q := fun i (hi : 24 ≤ i) => (b6.1 i (by omega)).2.1
    exact ⟨t0, by rw [q 24 (by omega)]; exact t1, by rw [q 25 (by omega)]; exact t2, by rw [q 26 (by omega)]; exact t3, by rw [q 27 (by omega)]; exact t4, by rw [q 28 (by omega)]; exact t5, by rw [q 29 (by omega)]; exact t6⟩
  rw [← E5]
  refine ⟨b2.obT (by decide), q_T_fit b2 b3 ts1 b0 (fun u2 ad2 I2 ln2 z2 c1 c2 c3 c4 c5 => ?_)⟩
  have hle2 := c2.le
  have nT : ∀ i : Nat, i < 24 ∨ 28 ≤ i → ¬ isT i := fun i hi q => by rcases q with q | q | q | q <;> omega
  have nN : ∀ i : Nat, (i < 7 ∨ i = 9 ∨ 14 ≤ i) → ¬ isN i := fun i hi c => by rcases c with c | c | c | c | c | c <;> omega
  have E5' : ad2 5 = ad1 5 := (c4 5 (nT 5 (by omega))).1
  rw [← E5']
  have b6i : ∀ q : Nat, 24 ≤ q → I1 q = I q := fun q hq => (b6.1 q (by omega)).2.2
  have J24 : ∀ n : Nat, n < 2 ^ e → I2 24 n = I 24 n := fun n hn => by rw [(c5 24 n t24).1 hn, b6i 24 (by omega)]
  have J25 : ∀ n : Nat, n < 2 ^ e → I2 25 n = I 25 n := fun n hn => by rw [(c5 25 n t25).1 hn, b6i 25 (by omega)]
  have J25' : ∀ n : Nat, I2 25 n = I 25 n ∨ I2 25 n = 0 := fun n => by
    rcases (c5 25 n t25).2 with w | w
    · exact Or.inl (by rw [w, b6i 25 (by omega)])
    · exact Or.inr w
  have J26 : ∀ n : Nat, n < 2 ^ e → I2 26 n = I 26 n := fun n hn => by rw [(c5 26 n t26).1 hn, b6i 26 (by omega)]
  have S114 : S1 14 = S 14 := b11 14 (by decide)
  have S113 : S1 13 = S 13 := b11 13 (by decide)
  have I29 : I2 9 = I 9 := by rw [(c4 9 (nT 9 (by omega))).2.1, b9]
  have I2k : I2 (14 + r i) = I (14 + r i) := by rw [(c4 _ (nT (14 + r i) (by omega))).2.1, (b10 _ (nN (14 + r i) (by omega))).2.1]
  have tm2 : TM e1 f0 g gt S1 I2 ln2 := by
    have t0 := b4.i24 (J := I2) (fun i hi => (c4 i (nT i (by omega))).2.1)
    obtain ⟨d1, d2, d3, d4, d7, d8, d9, d10, d11, d12, d13, d14⟩ := t0
    exact ⟨d1, d2, d3, d4, d7, d8, d9, d10, d11, d12, d13, fun k hk => by rw [(c4 _ (nT (14 + k) (by omega))).2.2]; exact d14 k hk⟩
  have d13 := tm2.2.2.2.2.2.2.2.2.2.2.1
  have glt : ∀ n : Nat, gt n ≠ 0 → n < 2 ^ e := fun n hn => by have := (tm.cg (Or.inr hn)).2.2; omega
  have ms : MRI e1 f0 g rt o r x i gt gg D (fun m => ∃ a : Nat, 0 ≤ a ∧ a < I2 9 (r i) ∧ I2 (14 + r i) a = m ∧ dep (D0 m) x) (fun _ => 0) S1 I2 ln2 := by
    refine ⟨tm2, hct, hcg2, ⟨fun m hm => ?_, fun m hm hmT hmk => ?_⟩, k1, fun n hn => ?_, fun n hn => ?_, fun n hn => ?_, fun n hn hk => ?_, fun n hn htr => ?_, k6, ?_⟩
    · obtain ⟨a, _, q2, q3, q4⟩ := hm
      have w := d13.1 (r i) a hy10 q2
      dsimp only at w
      rw [q3] at w
      have w2 := up1 m w.1.1 w.2.1
      rw [ey, ex, hD0 m (Or.inr w.1.1)]
      exact ⟨w2.1, w2.2, q4⟩
    · rw [ey] at hmk
      rw [ex]
      intro hd
      have w := up2 m hm hmk
      have w2 := d13.2 m ⟨w.1, fun q => q⟩
      dsimp only at w2
      rw [w.2] at w2
      exact hmT ⟨I2 10 m, by omega, w2.2.1, w2.2.2, by rw [← hD0 m (Or.inr w.1)]; exact hd⟩
    · rw [J25 n (glt n hn), S114]; exact k2 n hn
    · rw [J25 n (glt n (k1 n hn)), S114]; exact k3 n hn
    · rw [S114]
      rcases J25' n with w | w
      · rw [w]; exact k3' n hn
      · rw [w]; omega
    · rw [J26 n (glt n (k1 n hn))]; exact k4 n hn hk
    · rw [J24 n (glt n (k1 n hn))]
      refine k5 n hn ?_
      rcases htr with w | ⟨j, w1, w2⟩ | ⟨a, _, q2, q3, _⟩
      · exact Or.inl w
      · exact Or.inr ⟨j, by omega, w2⟩
      · have w := d13.1 (r i) a hy10 q2
        dsimp only at w
        rw [q3] at w
        exact Or.inr ⟨i, by omega, (up1 n w.1.1 w.2.1).2⟩
    · rw [S114]
      refine ⟨k7.1, fun n => ?_⟩
      rcases J25' n with w | w
      · rw [w]; exact k7.2 n
      · rw [w]; omega
  have r9' := c1.ia 9 (by decide) (ii (by decide)) (j := r i) (by have : ln2 9 = 10 := c2.2.2.1.2.2.1; omega) (by have : ln2 9 = 10 := c2.2.2.1.2.2.1; omega)
  refine ⟨_, c1.fT (by decide) rfl, _, c1.fN (by decide) rfl, _, c1.fT (by decide) rfl, _, c1.fN (by decide) rfl, _, c1.rm (by decide) hy10, _, c1.fT (by decide) rfl, _, c1.fT (by decide) rfl, _, c1.fT (by decide) rfl, _, c1.fN (by decide) rfl, _, r9', _, c1.fT (by decide) rfl, _, c1.fN (by decide) rfl, I2 9 (r i) + 1, ?_⟩
  refine q_T_rise_L (S0 := S1) (I0 := I2) (N0 := N) (bf := S1 9) (cnt := I2 9 (r i)) (row := I2 (14 + r i)) (D0 := D0) (F := F) c2 c3 ho hr hx10 hi9 hio (fun j hj => hro j (by omega)) rfl rfl (fun u3 S3 I3 gt3 gg3 D3 gone N3 A3 v1 v2 v3 v4 v5 v6 v7 v8 v9 v10 v11 v12 => ?_) (I2 9 (r i)) 0 0 u2 S1 I2 gt gg D N A (by omega) c1 ms hL hrt hD0 hN hA (by omega) (by omega) (Nat.le_refl _) (FR2.rf S1 I2) (by rw [I29]; omega) (by omega)
  obtain ⟨tm3, hct3, hcg3, hT3, l1, l2, l3, l3', l4, l5, l6, l7⟩ := v2
  unfold p_T_riseAbove_J362
  refine ⟨_, v1.fT (by decide) rfl, ?_⟩
  rw [pk_sub (show gone ≤ S3 13 by omega)]
  obtain ⟨u4, s4, h4⟩ := v1.sT (by decide) 2 13 (S3 13 - gone) (by decide) rfl rfl rfl rfl
  refine ⟨u4, s4, _, h4.fT (by decide) rfl, _, h4.fN (by decide) rfl, ?_⟩
  have S39 : va_up S3 13 (S3 13 - gone) 9 = S3 9 := rfl
  have hcg4 : CAN (Wo (insO r i x)) gg3 D3 := hs.done hoc hcg3 (fun n hn hk => hT3.2 n hn (fun q => q) hk)
  refine hQ u4 e1 ad2 (va_up S3 13 (S3 13 - gone)) I3 ln2 z2 gt3 gg3 D3 N3 A3 _ h4 (c2.s (show S3 7 = S1 7 from v11.2.1 7 (by decide) (by decide))) c3 ?_ ⟨?_, hct3, ⟨hcg4, v4, v3⟩, l1, l2, l3, l3', l4, fun n hn htr => l5 n hn (htr.elim Or.inl (fun w => Or.inr (Or.inl w))), l6, l7, v5, v6, v7, by rw [up_eq]; omega⟩ (i32_ret v10 v8) ⟨fun q hq => ?_, fun s a1 a2 a3 a4 a5 => ?_, fun b hb n => ?_⟩ (by rw [S39]; omega) (by rw [S39, ← I29]; omega) ?_ ?_
  · rw [v11.1 8 (by decide) (by decide) (by decide) (by decide) (by decide) (by decide), (c4 8 (nT 8 (by omega))).2.1]
    exact b5
  · obtain ⟨d1, d2, d3, d4, d7, d8, d9, d10, d11, d12, d13, d14⟩ := tm3
    exact ⟨d1, d2, d3, d4, d7, d8, d9, d10, d11, d12, d13, d14⟩
  · have q2 := c4 q (nT q (by omega))
    have q3 : I3 q = I2 q := v11.1 q (by omega) (by omega) (by omega) (by omega) (by omega) (by omega)
    have q1 := b10 q (fun w => by rcases w with w | w | w | w | w | w <;> omega)
    exact ⟨q2.1.trans q1.1, q2.2.2.trans q1.2.2, (q3.trans q2.2.1).trans q1.2.1⟩
  · rw [up_ne _ _ a4, v11.2.1 s a2 a4, b11 s a1]
  · rw [v11.1 13 (by decide) (by decide) (by decide) (by decide) (by decide) (by decide), (c4 13 (nT 13 (by omega))).2.1]
    exact b6.2.2.1 b hb n
  · rw [up_ne _ _ (by decide), v11.2.1 12 (by decide) (by decide), b11 12 (by decide)]
  · rw [up_ne _ _ (by decide), v11.2.1 14 (by decide) (by decide), b11 14 (by decide)]
theorem q_T_sr_L (sh : SH R S ln z e) (ts : TSH ln e) (ds : DS e g (fun _ => False) S I ln) (hx : x < 10) (h13 : S 13 = I 9 x) {X : PS → Prop} (hX : ∀ (u' : PS) (M P : Nat → Nat), VC 69 ad S (va_up (va_up I 25 M) 26 P) ln L E z u' → (∀ n : Nat, (∃ a : Nat, a < I 9 x ∧ I (14 + x) a = n) → M n = S 14 ∧ P n = g n) → (∀ n : Nat, ¬ (∃ a : Nat, a < I 9 x ∧ I (14 + x) a = n) → M n = I 25 n) → X u') : ∀ (d j : Nat) (u : PS) (M P : Nat → Nat), j + d = I 9 x → VC 69 ad S (va_up (va_up I 25 M) 26 P) ln L E z u → (∀ n : Nat, (∃ a : Nat, a < j ∧ I (14 + x) a = n) → M n = S 14 ∧ P n = g n) → (∀ n : Nat, ¬ (∃ a : Nat, a < j ∧ I (14 + x) a = n) → M n = I 25 n) → p_T_startRising_L31 (ad 5) (ad (14 + x)) X (d + 1) (nI j) u := by
  have hle := sh.le
  obtain ⟨d1, d2, d3, d4, d5, d6, d7, d8⟩ := id ds
  have lx := sh.2.2.2.2.1 x hx
  have lc := d8 x hx
  intro d
  induction d with
  | zero =>
    intro j u M P hj h h1 h2
    obtain rfl : j = I 9 x := by omega
    rw [p_T_startRising_L31]
    refine ⟨_, h.fT (by decide) rfl, ?_⟩
    rw [h13]
    exact pk_le (I 9 x) (I 9 x) (fun _ => hX u M P h h1 h2) (fun w => absurd w (by omega))
  | succ d ih =>
    intro j u M P hj h h1 h2
    rw [p_T_startRising_L31]
    refine ⟨_, h.fT (by decide) rfl, ?_⟩
    rw [h13]
    refine pk_le (I 9 x) j (fun w => absurd w (by omega)) (fun _ => ?_)
    obtain ⟨m1, m2, m3⟩ := d7.1 x j hx (by omega)
    dsimp only at m1 m2 m3
    generalize hn : I (14 + x) j = n at m1 m2 m3
    have w3 := d3 n m1.1
    have ek : va_up (va_up I 25 M) 26 P (14 + x) = I (14 + x) := by rw [up_ne _ _ (by omega), up_ne _ _ (by omega)]
    have rx := h.ia (14 + x) (by omega) (ii (by omega)) (j := j) (by omega) (by omega)
    rw [ek, hn] at rx
    obtain ⟨u1, s1, v1⟩ := h.tis ts hle 25 t25 (j := n) (by omega) (S 14)
    refine ⟨_, rx, _, h.fT (by decide) rfl, _, h.fT (by decide) rfl, u1, s1, _, v1.fT (by decide) rfl, _, v1.fT (by decide) rfl, _, v1.fN (by decide) rfl, ?_⟩
    have r7 := v1.nia sh 7 n7 (j := n) (by omega)
    have e7 : va_up (va_up (va_up I 25 M) 26 P) 25 (va_up (va_up (va_up I 25 M) 26 P 25) n (S 14)) 7 = I 7 := rfl
    rw [e7, d1 n w3.1 w3.2.1] at r7
    obtain ⟨u2, s2, v2⟩ := v1.tis ts hle 26 t26 (j := n) (by omega) (g n)
    refine ⟨_, r7, u2, s2, nm_e ?_⟩
    rw [nI_1]
    have eq : va_up (va_up (va_up (va_up I 25 M) 26 P) 25 (va_up (va_up (va_up I 25 M) 26 P 25) n (S 14))) 26 (va_up (va_up (va_up (va_up I 25 M) 26 P) 25 (va_up (va_up (va_up I 25 M) 26 P 25) n (S 14)) 26) n (g n)) = va_up (va_up I 25 (va_up M n (S 14))) 26 (va_up P n (g n)) := by
      funext q
      by_cases c1 : q = 26
      · subst c1; rw [up_eq, up_eq, up_ne _ _ (by decide), up_eq]
      · rw [up_ne _ _ c1, up_ne _ _ c1]
        by_cases c2 : q = 25
        · subst c2; rw [up_eq, up_eq, up_ne _ _ (by decide), up_eq]
        · rw [up_ne _ _ c2, up_ne _ _ c2, up_ne _ _ c1, up_ne _ _ c2]
    rw [eq] at v2
    refine ih (j + 1) u2 _ _ (by omega) v2 (fun m hm => ?_) (fun m hm => ?_)
    · by_cases c : m = n
      · subst c; rw [up_eq, up_eq]; exact ⟨rfl, rfl⟩
      · rw [up_ne _ _ c, up_ne _ _ c]
        obtain ⟨a, q1, q2⟩ := hm
        refine h1 m ⟨a, ?_, q2⟩
        by_cases c2 : a = j
        · subst c2; exact absurd (by rw [← q2, hn]) c
        · omega
    · have c : m ≠ n := fun w => hm ⟨j, by omega, by rw [w, hn]⟩
      rw [up_ne _ _ c]
      exact h2 m (fun ⟨a, q1, q2⟩ => hm ⟨a, by omega, q2⟩)
theorem q_T_startRising (h : VC 69 ad S I ln L E z u) (sh : SH R S ln z e) (ts : TSH ln t) (hte : t ≤ e) (ds : DS e g (fun _ => False) S I ln) (rc : RC e g rt (fun _ => 0) (I 8)) (hst : ST o F g D0 rt) (hx : x < 10) (hins : insO r pl x = o) (hmk : S 14 + 1 < 2 ^ 31) (hmk2 : ∀ n : Nat, I 25 n ≤ S 14)
    {Q : PS → Prop} (hQ : ∀ (u' : PS) (ad' S' : Nat → Nat) (I' : Nat → Nat → Nat) (ln' : Nat → Nat) (z' : Nat × Nat), VC 69 ad' S' I' ln' L E z' u' → SH R S' ln' z' e → TSH ln' e → RC e g rt (fun _ => 0) (I' 8) → RKS e (S 9) g rt o r x pl F D0 g g D0 (S 10) (I 9 x) S' I' ln' → FTR ad S I ln ad' S' I' ln' → S' 9 = S 9 → S' 12 = S 9 → S' 14 = S 14 + 1 → Q u') : p_T_startRising (ad 5) (nI x) u Q := by
  have hle := sh.le
  obtain ⟨hcg, hrt, hL⟩ := id hst
  have s9e : S 9 ≤ 2 ^ e := ds.2.2.2.1
  have nT : ∀ i : Nat, i < 24 ∨ 28 ≤ i → ¬ isT i := fun i hi q => by rcases q with q | q | q | q <;> omega
  unfold p_T_startRising
  refine ⟨h.obT (by decide), q_T_fit h sh ts hte (fun u1 ad1 I1 ln1 z1 c1 c2 c3 c4 c5 => ?_)⟩
  have E5 : ad1 5 = ad 5 := (c4 5 (nT 5 (by omega))).1
  rw [← E5]
  have I1e : ∀ i : Nat, i < 24 ∨ 28 ≤ i → I1 i = I i := fun i hi => (c4 i (nT i hi)).2.1
  have l1e : ∀ i : Nat, i < 24 ∨ 28 ≤ i → ln1 i = ln i := fun i hi => (c4 i (nT i hi)).2.2
  have ds1 : DS e g (fun _ => False) S I1 ln1 := ds.cong (fun j a b _ _ => I1e j (by omega)) rfl rfl rfl (fun k hk => l1e _ (by omega))
  refine ⟨c1.obT (by decide), q_T_start c1 c2 c3 s9e hx (fun u2 h2 => ?_)⟩
  obtain ⟨u3, s3, h3⟩ := h2.sT (by decide) 5 14 (S 14 + 1) (by decide) rfl rfl rfl rfl
  refine ⟨_, h2.fT (by decide) rfl, ?_⟩
  have e14 : va_up (va_up S 12 (S 9)) 13 (I1 9 x) 14 = S 14 := rfl
  rw [e14, nI_1]
  refine ⟨u3, s3, _, h3.fT (by decide) rfl, _, h3.fN (by decide) rfl, _, h3.rm (by decide) hx, ?_⟩
  generalize hI2 : va_up I1 24 (va_cpy (I1 8) (I1 24) 0 0 (S 9)) = I2 at h3
  have I2e : ∀ i : Nat, i ≠ 24 → I2 i = I1 i := fun i hi => by rw [← hI2, up_ne _ _ hi]
  have I224 : ∀ n : Nat, n < S 9 → I2 24 n = I 8 n := fun n hn => by rw [← hI2, up_eq, cpy_lt hn, I1e 8 (by omega)]
  have I2lo : ∀ i : Nat, i < 24 → I2 i = I i := fun i hi => by rw [I2e i (by omega), I1e i (by omega)]
  have sh3 : SH R (va_up (va_up (va_up S 12 (S 9)) 13 (I1 9 x)) 14 (S 14 + 1)) ln1 z1 e := c2.s rfl
  have ds3 : DS e g (fun _ => False) (va_up (va_up (va_up S 12 (S 9)) 13 (I1 9 x)) 14 (S 14 + 1)) I2 ln1 := ds1.cong (fun j a b _ _ => by rw [I2lo j (by omega), I1e j (by omega)]) rfl rfl rfl (fun _ _ => rfl)
  have I29 : I2 9 = I 9 := I2lo 9 (by omega)
  have I19 : I1 9 = I 9 := I1e 9 (by omega)
  have m25 : ∀ n : Nat, I2 25 n ≤ S 14 := fun n => by
    rw [I2e 25 (by decide)]
    rcases (c5 25 n t25).2 with w | w
    · rw [w]; exact hmk2 n
    · rw [w]; omega
  refine ⟨I2 9 x + 1, q_T_sr_L (S := va_up (va_up (va_up S 12 (S 9)) 13 (I1 9 x)) 14 (S 14 + 1)) (I := I2) sh3 c3 ds3 hx (by rw [I29]; show I1 9 x = _; rw [I19]) (fun u4 M P h4 q1 q2 => ?_) (I2 9 x) 0 u3 (I2 25) (I2 26) (by omega) (by rw [up_id, up_id]; exact h3) (fun n ⟨a, w, _⟩ => absurd w (by omega)) (fun _ _ => rfl)⟩
  have T14 : va_up (va_up (va_up S 12 (S 9)) 13 (I1 9 x)) 14 (S 14 + 1) 14 = S 14 + 1 := up_eq _ _ _
  rw [T14] at q1
  generalize hI4 : va_up (va_up I2 25 M) 26 P = I4 at h4
  have I425 : I4 25 = M := by rw [← hI4]; rfl
  have I426 : I4 26 = P := by rw [← hI4]; rfl
  have I4e : ∀ i : Nat, i ≠ 25 → i ≠ 26 → I4 i = I2 i := fun i a b => by rw [← hI4, up_ne _ _ b, up_ne _ _ a]
  have I4lo : ∀ i : Nat, i < 24 → I4 i = I i := fun i hi => by rw [I4e i (by omega) (by omega), I2lo i hi]
  have d7 := ds.2.2.2.2.2.2.1
  have d3 := ds.2.2.1
  have mem : ∀ n : Nat, (∃ a : Nat, a < I2 9 x ∧ I2 (14 + x) a = n) ↔ g n ≠ 0 ∧ nk (g n) = x := fun n => by
    rw [I29, I2lo (14 + x) (by omega)]
    constructor
    · rintro ⟨a, w1, w2⟩
      have w := d7.1 x a hx w1
      dsimp only at w
      rw [w2] at w
      exact ⟨w.1.1, w.2.1⟩
    · rintro ⟨w1, w2⟩
      have w := d7.2 n ⟨w1, fun q => q⟩
      dsimp only at w
      rw [w2] at w
      exact ⟨I 10 n, w.2.1, w.2.2⟩
  have S9' : va_up (va_up (va_up S 12 (S 9)) 13 (I1 9 x)) 14 (S 14 + 1) 9 = S 9 := rfl
  have tm3 := ds3.tm
  rw [S9'] at tm3
  have mne : ∀ n : Nat, ¬ (g n ≠ 0 ∧ nk (g n) = x) → I4 25 n ≠ S 14 + 1 := fun n hn w => by
    rw [I425, q2 n (fun q => hn ((mem n).mp q))] at w
    have := m25 n
    omega
  refine hQ u4 ad1 _ I4 ln1 z1 h4 sh3 c3 (by rw [I4lo 8 (by omega)]; exact rc) ⟨tm3.i24 (fun i hi => I4e i (by omega) (by omega)), hcg, by rw [hins]; exact hst, fun _ q => q, fun _ _ => Or.inl rfl, fun n hn => ?_, fun n hn => ?_, fun n hn hk => ?_, fun n hn _ => ?_, fun _ _ _ => rfl, ?_, fun _ _ => rfl, ds.cnt, ds.asks hx, ?_⟩ ⟨fun i hi => ?_, fun s _ _ a3 a4 a5 => by rw [up_ne _ _ a5, up_ne _ _ a4, up_ne _ _ a3], fun b hb n => by rw [I4lo 13 (by omega)]; exact hb n⟩ rfl rfl T14
  · rw [T14]
    constructor
    · intro w
      refine Classical.byContradiction (fun q => mne n (fun q3 => q q3.2) w)
    · intro w
      rw [I425]
      exact (q1 n ((mem n).mpr ⟨hn, w⟩)).1
  · rw [T14]
    refine mne n (fun w => ?_)
    have := d3 n w.1
    omega
  · rw [I426, (q1 n ((mem n).mpr ⟨hn, hk⟩)).2]
    exact ⟨rfl, rfl, (d3 n hn).2.2⟩
  · have w := d3 n hn
    rw [I4e 24 (by decide) (by decide), I224 n w.2.1]
    have q := rc n (by omega)
    rw [if_neg (by omega)] at q
    dsimp only at q
    omega
  · rw [T14]
    refine ⟨hmk, fun n => ?_⟩
    by_cases c : g n ≠ 0 ∧ nk (g n) = x
    · rw [I425, (q1 n ((mem n).mpr c)).1]; exact Nat.le_refl _
    · rw [I425, q2 n (fun q => c ((mem n).mp q))]
      have := m25 n
      omega
  · show I1 9 x = I 9 x
    rw [I19]
  · have q := c4 i (nT i (by omega))
    refine ⟨q.1, q.2.2, ?_⟩
    rw [I4e i (by omega) (by omega), I2e i (by omega)]
    exact q.2.1
end RS4
