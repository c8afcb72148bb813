/-! the nodes between calls -/
def FG (ad S : Nat → Nat) (I : Nat → Nat → Nat) (ln ad' S' : Nat → Nat) (I' : Nat → Nat → Nat) (ln' : Nat → Nat) : Prop := (∀ i : Nat, ¬ (7 ≤ i ∧ i < 24) → ad' i = ad i ∧ ln' i = ln i ∧ I' i = I i) ∧ (∀ s : Nat, ¬ (7 ≤ s ∧ s < 11) → S' s = S s) ∧ (∀ b : Nat, (∀ n : Nat, I 13 n ≤ b) → ∀ n : Nat, I' 13 n ≤ b) ∧ ln 7 ≤ ln' 7
theorem FG.rf (ad S : Nat → Nat) (I : Nat → Nat → Nat) (ln : Nat → Nat) : FG ad S I ln ad S I ln := ⟨fun _ _ => ⟨rfl, rfl, rfl⟩, fun _ _ => rfl, fun _ h => h, Nat.le_refl _⟩
theorem FG.tr {ad S : Nat → Nat} {I : Nat → Nat → Nat} {ln ad' S' : Nat → Nat} {I' : Nat → Nat → Nat} {ln' ad'' S'' : Nat → Nat} {I'' : Nat → Nat → Nat} {ln'' : Nat → Nat} (h : FG ad S I ln ad' S' I' ln') (k : FG ad' S' I' ln' ad'' S'' I'' ln'') : FG ad S I ln ad'' S'' I'' ln'' :=
  ⟨fun i hi => ⟨(k.1 i hi).1.trans (h.1 i hi).1, (k.1 i hi).2.1.trans (h.1 i hi).2.1, (k.1 i hi).2.2.trans (h.1 i hi).2.2⟩, fun s hs => (k.2.1 s hs).trans (h.2.1 s hs), fun b hb => k.2.2.1 b (h.2.2.1 b hb), Nat.le_trans h.2.2.2 k.2.2.2⟩
theorem FG.of {ad S : Nat → Nat} {I : Nat → Nat → Nat} {ln ad' S' : Nat → Nat} {I' : Nat → Nat → Nat} {ln' : Nat → Nat} (h : FN S I S' I') (k : FA ad ln ad' ln') : FG ad S I ln ad' S' I' ln' :=
  ⟨fun i hi => ⟨(k i (by omega)).1, (k i (by omega)).2, h.1 i (by omega)⟩, fun s hs => h.2.1 s (by omega) (by omega) (by omega), fun b hb n => by rw [h.2.2]; exact hb n, by rw [(k 7 (by omega)).2]; exact Nat.le_refl _⟩
def NS (L : Nat → Nat → Int64) (E : (Nat → Prop) × (Nat → Option PE)) (R : Nat × Nat) (B : Nat) (o : Nat → Nat) (F : Nat → Nat → Bool) (rt : Nat → Nat) (ad S : Nat → Nat) (I : Nat → Nat → Nat) (ln : Nat → Nat) (z : Nat × Nat) (u : PS) (e : Nat) (g : Nat → Nat) (D : Nat → Fn) : Prop :=
  VC 69 ad S I ln L E z u ∧ SH R S ln z e ∧ DS e g (fun _ => False) S I ln ∧ RC e g rt (fun _ => 0) (I 8) ∧ ST o F g D rt ∧ S 9 ≤ B
section NSs
variable {L : Nat → Nat → Int64} {E : (Nat → Prop) × (Nat → Option PE)} {R : Nat × Nat} {B : Nat} {o o' : Nat → Nat} {F : Nat → Nat → Bool} {rt ad S : Nat → Nat} {I : Nat → Nat → Nat} {ln : Nat → Nat} {z : Nat × Nat} {u : PS} {e i : Nat} {g : Nat → Nat} {D : Nat → Fn}
theorem DS.cnt {T : Nat → Prop} (ds : DS e g T S I ln) : Cnt (fun n => g n ≠ 0) (S 10) := by
  obtain ⟨d1, d2, d3, d4, d5, ⟨l, l1, l2, l3, l4⟩, _⟩ := ds
  obtain ⟨N, _, hN⟩ := Cnt.ex (S 9) (fun i => i) (fun n => g n ≠ 0) (fun n hn => ⟨n, (d3 n hn).2.1, rfl⟩)
  have hu := hN.union (nodup_cnt l l2) (fun n hn hl => hn ((l3 n).mp hl).2.2)
  have hw : Cnt (fun n => 2 ≤ n ∧ n < S 9) (S 9 - 2) := ⟨fun i => i + 2, fun i j _ _ e => by dsimp only at e; omega, fun i hi => by dsimp only; omega, fun x hx => ⟨x - 2, by omega, by dsimp only; omega⟩⟩
  have := (hu.congr (fun n => ⟨fun q => ?_, fun q => ?_⟩)).uniq hw
  · have : N = S 10 := by omega
    rw [this] at hN
    exact hN
  · rcases q with q | q
    · exact ⟨(d3 n q).1, (d3 n q).2.1⟩
    · exact ⟨((l3 n).mp q).1, ((l3 n).mp q).2.1⟩
  · by_cases c : g n = 0
    · exact Or.inr ((l3 n).mpr ⟨q.1, q.2, c⟩)
    · exact Or.inl c
theorem DS.asks (ds : DS e g (fun _ => False) S I ln) {k : Nat} (hk : k < 10) : Cnt (fun n => g n ≠ 0 ∧ nk (g n) = k) (I 9 k) := by
  obtain ⟨d1, d2, d3, d4, d5, d6, d7, d8⟩ := ds
  refine ⟨I (14 + k), fun i j hi hj q => ?_, fun i hi => ?_, fun n hn => ?_⟩
  · have a := (d7.1 k i hk hi).2.2
    have b := (d7.1 k j hk hj).2.2
    dsimp only at a b
    rw [← a, q, b]
  · have a := d7.1 k i hk hi
    exact ⟨a.1.1, a.2.1⟩
  · have a := (d7.2 n ⟨hn.1, fun w => w⟩).2
    rw [hn.2] at a
    exact ⟨I 10 n, a.1, a.2⟩
theorem NS.size (h : NS L E R B o F rt ad S I ln z u e g D) (ho : PO o) : S 10 = wh (PR 0 24) F o := (h.2.2.2.2.1.nw ho h.2.2.1.cnt).symm
theorem NS.nq (h : NS L E R B o F rt ad S I ln z u e g D) (ho : PO o) {j : Nat} (hj : j < 10) : I 9 (o j) = qn (PR 0 24) F o j := (h.2.2.2.2.1.nq ho hj (h.2.2.1.asks (ho.1 j hj))).symm
theorem DS.s9 {T : Nat → Prop} (ds : DS e g T S I ln) : 2 ≤ S 9 := by
  obtain ⟨_, _, _, _, _, ⟨l, _, _, _, l4⟩, _⟩ := ds
  omega
theorem DS.w7 {T : Nat → Prop} (ds : DS e g T S I ln) : ∀ n : Nat, n < S 9 → I 7 n < 2 ^ 32 := fun n hn => by
  obtain ⟨d1, d2, d3, _⟩ := ds
  by_cases c : n < 2
  · rcases (by omega : n = 0 ∨ n = 1) with rfl | rfl
    · rw [d2.1]; decide
    · rw [d2.2]; decide
  · rw [d1 n (by omega) hn]
    by_cases q : g n = 0
    · rw [q]; decide
    · exact (d3 n q).2.2
/-- room is made for nodes to come -/
theorem q_N_room {W : Nat → Fn → Prop} {xt : Nat → Nat} (h : VC 69 ad S I ln L E z u) (sh : SH R S ln z e) (ds : DS e g (fun _ => False) S I ln) (rc : RC e g rt xt (I 8)) (hc : CAN W g D) (hrt : ∀ p : Nat, p < 24 → IN g (rt p)) (hxt : ∀ c : Nat, xt c = 0 ∨ IN g c) {N : Nat} (hN : N ≤ 16384)
    {Q : PS → Prop} (hQ : ∀ (u' : PS) (e' : Nat) (ad' S' : Nat → Nat) (I' : Nat → Nat → Nat) (ln' : Nat → Nat) (z' : Nat × Nat), N ≤ 2 ^ e' → VC 69 ad' S' I' ln' L E z' u' → SH R S' ln' z' e' → DS e' g (fun _ => False) S' I' ln' → RC e' g rt xt (I' 8) → FG ad S I ln ad' S' I' ln' → S' 9 = S 9 → S' 10 = S 10 → I' 9 = I 9 → Q u') : p_N_makeRoomFor (ad 4) (nI N) u Q := by
  have ds0 := ds
  obtain ⟨d1, d2, d3, d4, d5, d6, d7, d8⟩ := ds
  refine q_N_makeRoomFor (f0 := S 9) h sh hN ds0.s9 (Nat.le_refl _) (fun n q1 q2 => absurd q2 (by omega)) d4 ds0.w7 (fun a => hQ u e ad S I ln z a h sh ds0 rc (FG.rf ad S I ln) rfl rfl rfl) (fun u' e' ad' S' I' ln' z' a0 a1 a2 a3 a4 a5 a6 a7 a8 a9 a10 a11 _ => ?_)
  have h6 := sh.two
  have hlt : 2 ^ e < 2 ^ e' := Nat.pow_lt_pow_right (by decide) a0
  have S9 : S' 9 = S 9 := by rw [a4]; rfl
  have S8 : S' 8 = S 8 := by rw [a4]; rfl
  have S10 : S' 10 = S 10 := by rw [a4]; rfl
  have nN : ∀ i : Nat, (i < 7 ∨ i = 9 ∨ 14 ≤ i) → ¬ isN i := fun i hi c => by rcases c with c | c | c | c | c | c <;> omega
  have I9 : I' 9 = I 9 := (a5 9 (nN 9 (by omega))).2.1
  refine hQ u' e' ad' S' I' ln' z' a1 a2 a3 ⟨fun n q1 q2 => ?_, ?_, fun n hn => ?_, by rw [S9]; omega, ?_, ?_, ?_, fun k hk => ?_⟩ (fun c hcl => ?_) ⟨fun i hi => ?_, fun s hs => ?_, fun b hb n => ?_, by rw [sh.len n7, a3.len n7]; omega⟩ S9 S10 I9
  · rw [S9] at q2
    rw [a6, ext_lt (by omega)]; exact d1 n q1 q2
  · rw [a6, ext_lt (by omega), ext_lt (by omega)]; exact d2
  · rw [S9]; exact d3 n hn
  · refine a11.congr (fun m => ?_) (fun m hm => (d1 m hm.1 hm.2.1).symm) (fun _ _ => rfl)
    constructor
    · rintro ⟨q, _⟩
      have w := d3 m q
      exact ⟨w.1, w.2.1, by rw [d1 m w.1 w.2.1]; exact q⟩
    · rintro ⟨q1, q2, q3⟩
      exact ⟨by rw [← d1 m q1 q2]; exact q3, fun w => w⟩
  · rw [S8, S9, S10]
    obtain ⟨l, l1, l2, l3, l4⟩ := d6
    refine ⟨l, chn_congr l _ (fun a ha => ?_) l1, l2, l3, l4⟩
    have w := (l3 a).mp ha
    exact a10 a (by omega) (Or.inl (by rw [d1 a w.1 w.2.1]; exact w.2.2))
  · refine d7.congr (fun _ => Iff.rfl) (fun k hk => ⟨(a5 _ (nN _ (by omega))).2.1, by rw [I9]⟩) (fun n hn => ⟨?_, rfl⟩)
    have w := d3 n hn.1
    rw [a8, ext_lt (by omega)]
  · rw [I9, (a5 _ (nN (14 + k) (by omega))).2.2]; exact d8 k hk
  · rw [a7]
    by_cases c2 : c < 2 ^ e
    · rw [ext_lt c2]; exact rc c c2
    · rw [ext_ge (by omega), if_neg (by omega)]
      have nin : ¬ IN g c := fun q => c2 (ds0.inlt sh q)
      have z1 : rf g c = 0 := Classical.byContradiction (fun q => nin (by
        obtain ⟨m, _, hm⟩ := (sumTo_pos (f := fun m => r1 (g m) c) 16384).mp (by unfold rf at q; omega)
        obtain ⟨b1, b2⟩ := r1_pos.mp hm
        rcases b2 with b2 | b2
        · rw [← b2]; exact hc.i0 b1
        · rw [← b2]; exact hc.i1 b1))
      have z2 : rr rt c = 0 := Classical.byContradiction (fun q => nin (by
        obtain ⟨p, hp, hm⟩ := (sumTo_pos (f := fun p => if rt p = c then 1 else 0) 24).mp (by unfold rr at q; omega)
        have : rt p = c := Classical.byContradiction (fun w => by rw [if_neg w] at hm; omega)
        rw [← this]; exact hrt p hp))
      have z3 : xt c = 0 := (hxt c).resolve_right nin
      omega
  · have w := a5 i (nN i (by omega))
    exact ⟨w.1, w.2.2, w.2.1⟩
  · rw [a4]; exact up_ne _ _ (by omega)
  · rw [a9]
    unfold ext
    split
    · exact hb n
    · omega
theorem q_N_change (h : NS L E R B o F rt ad S I ln z u e g D) (hs : SW o o' i) (ho : PO o) (hB : 2 + S 10 + 2 * I 9 (o i) ≤ B) (hB2 : B ≤ 16384)
    {Q : PS → Prop} (hQ : ∀ (u' : PS) (e' : Nat) (ad' S' : Nat → Nat) (I' : Nat → Nat → Nat) (ln' : Nat → Nat) (z' : Nat × Nat) (g' : Nat → Nat) (D' : Nat → Fn), NS L E R B o' F rt ad' S' I' ln' z' u' e' g' D' → FG ad S I ln ad' S' I' ln' → Q u') : p_N_change (ad 4) (nI (o i)) (nI (o (i + 1))) u Q := by
  obtain ⟨a1, a2, a3, a4, ⟨hc, hr, hL⟩, a6⟩ := h
  have hle := a2.le
  have h9 := hs.1
  have hx10 : o i < 10 := ho.1 i (by omega)
  have l9 : ln 9 = 10 := a2.2.2.1.2.2.1
  have r9 := a1.ia 9 (by decide) (ii (by decide)) (j := o i) (by omega) (by omega)
  unfold p_N_change
  refine ⟨_, a1.fN (by decide) rfl, _, a1.fN (by decide) rfl, _, r9, a1.obN (by decide), ?_⟩
  have eN : ((2 : Int32) + nI (S 10)) + ((2 : Int32) * nI (I 9 (o i))) = nI (2 + S 10 + 2 * I 9 (o i)) := by
    rw [show (2 : Int32) = nI 2 from rfl, nI_add, pk_mul, nI_add]
  rw [eN]
  refine q_N_room a1 a2 a3 a4 hc (fun p hp => (hr p hp).1) (fun _ => Or.inl rfl) (by omega) (fun u1 e1 ad1 S1 I1 ln1 z1 b0 b1 b2 b3 b4 b5 b6 b7 b8 => ?_)
  have e4 : ad 4 = ad1 4 := ((b5.1 4 (by omega)).1).symm
  rw [e4]
  have hc2 : CAN (W2 o o') g D := hc.mono (fun n hn => Or.inl (hc.w hn))
  refine ⟨b1.obN (by decide), q_N_takeThose b1 b2 b3 hs ho hc2 (fun u2 I2 t l c1 c2 c3 c4 c5 c6 c7 c8 => ⟨l.length + 1, ?_⟩)⟩
  have hle1 := b2.le
  rw [b8] at c6
  refine q_N_change_L (B := B) (g := g) (D := D) (S := S1) (I := I1) (ad := ad1) (ln := ln1) hs ho (fun u3 ad3 S3 I3 ln3 z3 g3 D3 v1 v2 v3 v4 v5 v6 v7 v8 v9 v10 v11 => ?_) l 0 t u2 ad1 S1 I2 ln1 z1 g D (by omega) c4 c5 c1 b2 c2 (by rw [c8]; exact b4) hc2 c3 hL (fun p hp hin => ⟨hin, rfl⟩) c7 (FA.rf ad1 ln1) (by omega) (by omega) (by omega)
  refine hQ u3 e1 ad3 S3 I3 ln3 z3 g3 D3 ⟨v1, v2, v3.t (fun m => ⟨fun q => absurd q (fun w => w), fun q => absurd q List.not_mem_nil⟩), v4, ⟨hs.done ho v5 (fun n hn hk => v6.2 n hn List.not_mem_nil hk), fun p hp => ?_, v7⟩, v11⟩ (b5.tr (FG.of v9 v10))
  have q := v8 p hp (hr p hp).1
  exact ⟨q.1, by rw [q.2]; exact (hr p hp).2⟩
end NSs
