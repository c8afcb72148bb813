/-! sinking by trial: sinkBelow() -/
/-- between two steps: x stands behind the first c of r -/
def SKS (e f0 : Nat) (g rt o r : Nat → Nat) (x pl c : Nat) (F : Nat → Nat → Bool) (D0 : Nat → Fn) (gt gg : Nat → Nat) (D : Nat → Fn) (N A : Nat) (S : Nat → Nat) (I : Nat → Nat → Nat) (ln : Nat → Nat) : Prop :=
  TM e f0 g gt S I ln ∧ CAN (Wo o) gt D ∧ ST (insO r c x) F gg D rt ∧ (∀ n : Nat, gg n ≠ 0 → gt n ≠ 0) ∧ (∀ n : Nat, gt n ≠ 0 → nk (gt n) = x → (∀ j : Nat, j < c → ¬ dep (D n) (r j)) → gg n = gt n) ∧ (∀ n : Nat, gg n ≠ 0 → ¬ dep (D n) x ∨ nk (gg n) = x → gg n = gt n) ∧ (∀ n : Nat, IN gt n → lowr x r c (D n) → n < f0 ∧ I 24 n = (if n < 2 then alw n else 0) + rf gg n + rr rt n + 0) ∧ PLC r pl (I 29) ∧ CHN x c gt gg I ∧ (∀ m : Nat, IN g m → D m = D0 m) ∧ Cnt (fun m => gg m ≠ 0) N ∧ Cnt (fun m => gg m ≠ 0 ∧ nk (gg m) = x) A ∧ S 13 = A
/-- what a trial leaves of all -/
def FTR (ad S : Nat → Nat) (I : Nat → Nat → Nat) (ln ad' S' : Nat → Nat) (I' : Nat → Nat → Nat) (ln' : Nat → Nat) : Prop := (∀ i : Nat, i < 7 ∨ i = 9 ∨ (14 ≤ i ∧ i < 24) ∨ 30 ≤ i → ad' i = ad i ∧ ln' i = ln i ∧ I' i = I i) ∧ (∀ s : Nat, s ≠ 7 → s ≠ 9 → s ≠ 12 → s ≠ 13 → s ≠ 14 → S' s = S s) ∧ (∀ b : Nat, (∀ n : Nat, I 13 n ≤ b) → ∀ n : Nat, I' 13 n ≤ b)
theorem FTR.rf (ad S : Nat → Nat) (I : Nat → Nat → Nat) (ln : Nat → Nat) : FTR ad S I ln ad S I ln := ⟨fun _ _ => ⟨rfl, rfl, rfl⟩, fun _ _ _ _ _ _ => rfl, fun _ h => h⟩
theorem FTR.tr {ad S : Nat → Nat} {I : Nat → Nat → Nat} {ln ad' S' : Nat → Nat} {I' : Nat → Nat → Nat} {ln' ad'' S'' : Nat → Nat} {I'' : Nat → Nat → Nat} {ln'' : Nat → Nat} (h : FTR ad S I ln ad' S' I' ln') (k : FTR ad' S' I' ln' ad'' S'' I'' ln'') : FTR ad S I ln ad'' S'' I'' ln'' :=
  ⟨fun i hi => ⟨(k.1 i hi).1.trans (h.1 i hi).1, (k.1 i hi).2.1.trans (h.1 i hi).2.1, (k.1 i hi).2.2.trans (h.1 i hi).2.2⟩, fun s a b c d q => (k.2.1 s a b c d q).trans (h.2.1 s a b c d q), fun b hb => k.2.2 b (h.2.2 b hb)⟩
theorem i32_ret {N0 N s b gone : Nat} (hb : b ≤ s) (h : N + gone = N0 + (s - b)) : nI N0 + ((nI s - nI b) - nI gone) = nI N := by
  have e1 : nI N + nI gone = nI N0 + (nI s - nI b) := by rw [pk_sub hb, nI_add, nI_add, h]
  have e2 : nI N = nI N0 + (nI s - nI b) - nI gone := by rw [← e1, Int32.add_sub_cancel]
  have e3 : ∀ p q t : Int32, p + (q - t) = p + q - t := fun p q t => by rw [Int32.sub_eq_add_neg, Int32.sub_eq_add_neg, Int32.add_assoc]
  rw [e2, e3]
section SKC
variable {ad S : Nat → Nat} {I : Nat → Nat → Nat} {ln : Nat → Nat} {L : Nat → Nat → Int64} {E : (Nat → Prop) × (Nat → Option PE)} {z R : Nat × Nat} {u : PS} {e f0 : Nat} {g gt gg rt : Nat → Nat} {D D0 : Nat → Fn} {o r : Nat → Nat} {x pl c N A : Nat} {F : Nat → Nat → Bool}
/-- a node of x leads to r c just if it is in that chain -/
theorem mpl_dep (ho : PO o) (hr : PR9 r x) (hx10 : x < 10) (hplc : pl ≤ c) (hc9 : c < 9) (hcg : CAN (W2 (insO r c x) (insO r (c + 1) x)) gg D) (hct : CAN (Wo o) gt D) (m1 : ∀ n : Nat, gg n ≠ 0 → gt n ≠ 0) (m3 : ∀ n : Nat, gg n ≠ 0 → ¬ dep (D n) x ∨ nk (gg n) = x → gg n = gt n) (m5 : PLC r pl (I 29)) {n : Nat} (hn : gg n ≠ 0) (hk : nk (gg n) = x) : mpl (I 29) gt n = c ↔ dep (D n) (r c) := by
  have hs := ins_sw r x hc9
  have hoc : PO (insO r c x) := insO_PO hr hx10 (by omega)
  have ex : insO r c x c = x := insO_at r c x
  have ey : insO r c x (c + 1) = r c := ins_s r x c
  have by1 := before_y hs hoc hcg hn (by rw [ex]; exact hk)
  obtain ⟨f1, _⟩ := turn_facts hs hoc hcg hn (by rw [ex]; exact hk)
  rw [ey] at by1
  have gn : gg n = gt n := m3 n hn (Or.inr hk)
  have fr : ∀ j : Nat, j < c → ¬ dep (D n) (r j) := fun j hj => by
    have := f1 j hj
    rw [ins_lt r x hj] at this
    exact this
  have c0 : D (n0 (gg n)) = cof x false (D n) := by rw [← hcg.c0 hn, hk]
  have c1 : D (n1 (gg n)) = cof x true (D n) := by rw [← hcg.c1 hn, hk]
  have lw0 : lowr x r c (D (n0 (gg n))) := by
    rw [c0]; exact ⟨not_dep_cof _ _ _, fun j hj q => fr j hj (cof_dep q)⟩
  have lw1 : lowr x r c (D (n1 (gg n))) := by
    rw [c1]; exact ⟨not_dep_cof _ _ _, fun j hj q => fr j hj (cof_dep q)⟩
  have inT : ∀ q : Nat, IN gg q → IN gt q := fun q hq => by
    rcases hq with w | w
    · exact Or.inl w
    · exact Or.inr (m1 q w)
  have ke : ∀ q : Nat, IN gg q → lowr x r c (D q) → kd gg q = kd gt q := fun q hq hl => by
    unfold kd
    by_cases w : q < 2
    · rw [if_pos w, if_pos w]
    · rw [if_neg w, if_neg w, m3 q (hq.resolve_left w) (Or.inl hl.1)]
  have pl2 : ∀ q : Nat, IN gg q → lowr x r c (D q) → c ≤ I 29 (kd gt q) ∧ (I 29 (kd gt q) = c ↔ kd gg q = r c) := fun q hq hl => by
    rw [ke q hq hl]
    rcases kd_low hct hr hx10 m5 hplc (inT q hq) hl with w | ⟨j, w1, w2, w3, w4⟩
    · refine ⟨by omega, fun w5 => absurd w5 (by omega), fun w5 => ?_⟩
      have : kd gt q = 10 := if_pos w.1
      have := (hr.1 c hc9).1
      omega
    · refine ⟨by omega, fun w5 => by rw [w3, show j = c by omega], fun w5 => ?_⟩
      rw [w3] at w5
      have := hr.2 j c w2 hc9 w5
      omega
  obtain ⟨p0, p1⟩ := pl2 _ (hcg.i0 hn) lw0
  obtain ⟨p2, p3⟩ := pl2 _ (hcg.i1 hn) lw1
  rw [← by1, ← p1, ← p3]
  unfold mpl
  rw [← gn]
  split <;> omega
theorem q_T_sinkBelow (h : VC 69 ad S I ln L E z u) (sh : SH R S ln z e) (ts : TSH ln e) (rc : RC e g rt (fun _ => 0) (I 8)) (hst : ST o F g D0 rt) (ho : PO o) (hpl : pl < 10) (hxo : o pl = x) (hro : ∀ j : Nat, j < pl → o j = r j) (hr : PR9 r x) (hplc : pl ≤ c) (hc9 : c < 9) (sk : SKS e f0 g rt o r x pl c F D0 gt gg D N A S I ln) (hroom : S 9 + 2 * A ≤ 16384)
    {Q : Int32 → PS → Prop} (hQ : ∀ (u' : PS) (e' : Nat) (ad' S' : Nat → Nat) (I' : Nat → Nat → Nat) (ln' : Nat → Nat) (z' : Nat × Nat) (gt' gg' : Nat → Nat) (D' : Nat → Fn) (N' A' : Nat) (ret : Int32), VC 69 ad' S' I' ln' L E z' u' → SH R S' ln' z' e' → TSH ln' e' → RC e' g rt (fun _ => 0) (I' 8) → SKS e' f0 g rt o r x pl (c + 1) F D0 gt' gg' D' N' A' S' I' ln' → nI N + ret = nI N' → FTR ad S I ln ad' S' I' ln' → S 9 ≤ S' 9 → S' 9 ≤ S 9 + A' → S' 12 = S 12 → S' 14 = S 14 → (∀ n : Nat, I' 25 n = I 25 n ∨ I' 25 n = 0) → Q ret u') : p_T_sinkBelow (ad 5) (nI x) (nI (r c)) u Q := by
  obtain ⟨tm, hct, ⟨hcg, hrt, hL⟩, m1, m2, m3, m4, m5, m6, hD0, hN, hA, hA13⟩ := sk
  have hx10 : x < 10 := by rw [← hxo]; exact ho.1 pl hpl
  have hs := ins_sw r x hc9
  have hoc : PO (insO r c x) := insO_PO hr hx10 (by omega)
  have ex : insO r c x c = x := insO_at r c x
  have ey : insO r c x (c + 1) = r c := ins_s r x c
  have hcg2 : CAN (W2 (insO r c x) (insO r (c + 1) x)) gg D := hcg.mono (fun n hn => Or.inl (hcg.w hn))
  have s9 : S 9 ≤ 2 ^ e := tm.2.2.2.1.2.2
  have f09 : f0 ≤ S 9 := tm.2.2.2.1.2.1
  unfold p_T_sinkBelow
  refine ⟨_, h.fT (by decide) rfl, _, h.fT (by decide) rfl, _, h.fN (by decide) rfl, _, h.fT (by decide) rfl, h.obN (by decide), ?_⟩
  have eN : nI (S 9) + ((2 : Int32) * nI (S 13)) = nI (S 9 + 2 * A) := by
    rw [show (2 : Int32) = nI 2 from rfl, pk_mul, nI_add, hA13]
  rw [eN]
  refine q_N_roomT h sh tm rc hst.1 (fun p hp => (hst.2.1 p hp).1) hroom (fun u1 e1 ad1 S1 I1 ln1 z1 b0 b1 b2 b3 b4 b5 b6 b7 b8 b9 b10 b11 => ?_)
  have E5 : ad1 5 = ad 5 := (b6.1 5 (by omega)).1
  have ts1 : TSH ln1 e := by
    obtain ⟨t0, t1, t2, t3, t4, t5, t6⟩ := ts
    have q := fun i (hi : 24 ≤ i) => (b6.1 i (by omega)).2.1
    exact ⟨t0, by rw [q 24 (by omega)]; exact t1, by rw [q 25 (by omega)]; exact t2, by rw [q 26 (by omega)]; exact t3, by rw [q 27 (by omega)]; exact t4, by rw [q 28 (by omega)]; exact t5, by rw [q 29 (by omega)]; exact t6⟩
  rw [← E5]
  refine ⟨b2.obT (by decide), q_T_fit b2 b3 ts1 b0 (fun u2 ad2 I2 ln2 z2 c1 c2 c3 c4 c5 => ?_)⟩
  have hle2 := c2.le
  have nT : ∀ i : Nat, i < 24 ∨ 28 ≤ i → ¬ isT i := fun i hi q => by rcases q with q | q | q | q <;> omega
  have E5' : ad2 5 = ad1 5 := (c4 5 (nT 5 (by omega))).1
  have E4' : ad2 4 = ad1 4 := (c4 4 (nT 4 (by omega))).1
  rw [← E5']
  have J24 : ∀ n : Nat, n < 2 ^ e → I2 24 n = I 24 n := fun n hn => by rw [(c5 24 n t24).1 hn, (b6.1 24 (by omega)).2.2]
  have J27 : ∀ n : Nat, n < 2 ^ e → I2 27 n = I 27 n := fun n hn => by rw [(c5 27 n t27).1 hn, (b6.1 27 (by omega)).2.2]
  have J28 : I2 28 = I 28 := by rw [(c4 28 (nT 28 (by omega))).2.1, (b6.1 28 (by omega)).2.2]
  have J29 : I2 29 = I 29 := by rw [(c4 29 (nT 29 (by omega))).2.1, (b6.1 29 (by omega)).2.2]
  have tm2 : TM e1 f0 g gt S1 I2 ln2 := by
    have t0 := b4.i24 (J := I2) (fun i hi => (c4 i (nT i (by omega))).2.1)
    obtain ⟨d1, d2, d3, d4, d7, d8, d9, d10, d11, d12, d13, d14⟩ := t0
    exact ⟨d1, d2, d3, d4, d7, d8, d9, d10, d11, d12, d13, fun k hk => by rw [(c4 _ (nT (14 + k) (by omega))).2.2]; exact d14 k hk⟩
  have glt : ∀ n : Nat, gg n ≠ 0 → n < 2 ^ e := fun n hn => by have := (tm.cg (Or.inr (m1 n hn))).2.2; omega
  have m4' : ∀ n : Nat, IN gt n → lowr x r c (D n) → n < f0 ∧ I2 24 n = (if n < 2 then alw n else 0) + rf gg n + rr rt n + 0 := fun n hn hl => by
    obtain ⟨q1, q2⟩ := m4 n hn hl
    exact ⟨q1, by rw [J24 n (by omega)]; exact q2⟩
  have m6' : CHN x c gt gg I2 := fun i i1 i2 => by
    obtain ⟨l, l1, l2, l3⟩ := m6 i i1 i2
    rw [J28, J29]
    exact ⟨l, chn_congr l _ (fun q hq => J27 q (glt q ((l3 q).mp hq).1)) l1, l2, l3⟩
  obtain ⟨l, l1, l2, l3⟩ := m6' c (Nat.le_refl _) hc9
  have hmd : ∀ n : Nat, gg n ≠ 0 → nk (gg n) = x → (mpl (I2 29) gt n = c ↔ dep (D n) (r c)) := fun n hn hk => mpl_dep ho hr hx10 hplc hc9 hcg2 hct m1 m3 (by rw [J29]; exact m5) hn hk
  have hlA : l.length ≤ A := (nodup_cnt l l2).mono hA (fun n hn => ⟨((l3 n).mp hn).1, ((l3 n).mp hn).2.1⟩)
  have ms : MSI e1 f0 g rt o r x pl c gt gg D (fun m => m ∈ l) (fun _ => 0) S1 I2 ln2 := by
    refine ⟨tm2, hct, hcg2, ⟨fun t tt => ?_, fun m hm hmT hmk => ?_⟩, m1, fun n hn hk hj => m2 n hn hk (fun j q => hj j (by omega)), m3, m4', by rw [J29]; exact m5, fun i i1 i2 => m6' i (by omega) i2⟩
    · obtain ⟨q1, q2, q3⟩ := (l3 t).mp tt
      rw [ex, ey]
      exact ⟨q1, q2, (hmd t q1 q2).mp q3⟩
    · rw [ex] at hmk
      rw [ey]
      exact fun q => hmT ((l3 m).mpr ⟨hm, hmk, (hmd m hm hmk).mpr q⟩)
  have l29 : ln2 29 = 11 := c3.2.2.2.2.2.2
  have l28 : ln2 28 = 11 := c3.2.2.2.2.2.1
  have hy10 : r c < 10 := (hr.1 c hc9).1
  have r29 := c1.ia 29 (by decide) (ii (by decide)) (j := r c) (by omega) (by omega)
  rw [J29, m5.1 c hplc hc9] at r29
  have r28 := c1.ia 28 (by decide) (ii (by decide)) (j := c) (by omega) (by omega)
  refine ⟨_, c1.fT (by decide) rfl, _, c1.fN (by decide) rfl, _, c1.fT (by decide) rfl, _, c1.fT (by decide) rfl, _, c1.fN (by decide) rfl, _, c1.fT (by decide) rfl, _, c1.fT (by decide) rfl, _, r29, _, r28, l.length + 1, ?_⟩
  refine q_T_sink_L (S0 := S1) (I0 := I2) (N0 := N) (A0 := A) (bf := S1 9) (TK := l.length) (D0 := D0) (F := F) c2 c3 ho hpl hxo hro hr hplc hc9 (by omega) (fun u3 S3 I3 gt3 gg3 D3 gone turned N3 A3 v1 v2 v3 v4 v5 v6 v7 v8 v9 v10 v11 v12 => ?_) l (I2 28 c) 0 0 u2 S1 I2 gt gg D N A (by omega) l1 l2 c1 ms hL hrt hD0 (fun t tt => ((l3 t).mp tt).2.2) hN hA (by omega) (by omega) (Nat.le_refl _) (FT.rf S1 I2) (by omega)
  obtain ⟨tm3, hct3, hcg3, hT3, k1, k2, k3, k4, k5, k6⟩ := v2
  unfold p_T_sinkBelow_J350
  have S13 : S3 13 = A := by rw [v11.2.1 13 (by decide), b6.2.1 13 (by omega)]; exact hA13
  refine ⟨_, v1.fT (by decide) rfl, _, v1.fT (by decide) rfl, _, v1.fN (by decide) rfl, ?_⟩
  rw [S13, i32_ret v10 v9]
  obtain ⟨u4, s4, h4⟩ := v1.sT (by decide) 2 13 A3 (by decide) rfl rfl rfl rfl
  refine ⟨u4, s4, _, h4.fT (by decide) rfl, _, h4.fN (by decide) rfl, ?_⟩
  have S39 : va_up S3 13 A3 9 = S3 9 := rfl
  have hcg4 : CAN (Wo (insO r (c + 1) x)) gg3 D3 := hs.done hoc hcg3 (fun n hn hk => hT3.2 n hn List.not_mem_nil hk)
  refine hQ u4 e1 ad2 (va_up S3 13 A3) I3 ln2 z2 gt3 gg3 D3 N3 A3 _ h4 (c2.s (show S3 7 = S1 7 from v11.2.1 7 (by decide))) c3 ?_ ⟨?_, hct3, ⟨hcg4, v4, v3⟩, k1, k2, k3, fun n hn hl => k4 n hn ⟨hl.1, fun j hj => hl.2 j (by omega)⟩, k5, k6, v5, v6, v7, up_eq _ _ _⟩ (i32_ret v10 v8) ⟨fun i hi => ?_, fun s a1 a2 a3 a4 a5 => ?_, fun b hb => ?_⟩ (by rw [S39]; omega) (by rw [S39]; omega) ?_ ?_ (fun n => ?_)
  · rw [v11.1 8 (by decide) (by decide) (by decide) (by decide) (by decide) (by decide), (c4 8 (nT 8 (by omega))).2.1]
    exact b5
  · obtain ⟨d1, d2, d3, d4, d7, d8, d9, d10, d11, d12, d13, d14⟩ := tm3
    exact ⟨d1, d2, d3, d4, d7, d8, d9, d10, d11, d12, d13, d14⟩
  · have q2 := c4 i (nT i (by omega))
    have q3 : I3 i = I2 i := v11.1 i (by omega) (by omega) (by omega) (by omega) (by omega) (by omega)
    have q1 := b10 i (fun q => by rcases q with q | q | q | q | q | q <;> omega)
    exact ⟨q2.1.trans q1.1, q2.2.2.trans q1.2.2, (q3.trans q2.2.1).trans q1.2.1⟩
  · rw [up_ne _ _ a4, v11.2.1 s a2, b11 s a1]
  · intro n
    rw [v11.1 13 (by decide) (by decide) (by decide) (by decide) (by decide) (by decide), (c4 13 (nT 13 (by omega))).2.1]
    exact b6.2.2.1 b hb n
  · rw [up_ne _ _ (by decide), v11.2.1 12 (by decide), b6.2.1 12 (by omega)]
  · rw [up_ne _ _ (by decide), v11.2.1 14 (by decide), b6.2.1 14 (by omega)]
  · rw [v11.1 25 (by decide) (by decide) (by decide) (by decide) (by decide) (by decide)]
    have q1 := (b6.1 25 (by omega)).2.2
    rcases (c5 25 n t25).2 with q | q
    · exact Or.inl (by rw [q, q1])
    · exact Or.inr q
end SKC
