/-! Drawing: nodes for the parts of a function; folded() -/
def KP (g : Nat → Nat) (D : Nat → Fn) (g' : Nat → Nat) (D' : Nat → Fn) : Prop := ∀ n : Nat, IN g n → IN g' n ∧ D' n = D n ∧ g' n = g n
theorem KP.rf (g : Nat → Nat) (D : Nat → Fn) : KP g D g D := fun _ h => ⟨h, rfl, rfl⟩
theorem KP.tr {g g' g'' : Nat → Nat} {D D' D'' : Nat → Fn} (h : KP g D g' D') (k : KP g' D' g'' D'') : KP g D g'' D'' := fun n hn => by
  have a := h n hn
  have b := k n a.1
  exact ⟨b.1, b.2.1.trans a.2.1, b.2.2.trans a.2.2⟩
def DG (L : Nat → Nat → Int64) (E : (Nat → Prop) × (Nat → Option PE)) (R : Nat × Nat) (B e : Nat) (o rt g0 : Nat → Nat) (D0 : Nat → Fn) (f : Fn) (ad S : Nat → Nat) (I : Nat → Nat → Nat) (ln : Nat → Nat) (z : Nat × Nat) (u : PS) (g : Nat → Nat) (D : Nat → Fn) : Prop :=
  VC 69 ad S I ln L E z u ∧ SH R S ln z e ∧ DS e g (fun _ => False) S I ln ∧ RC e g rt (fun _ => 0) (I 8) ∧ CAN (Wo o) g D ∧ (KP g0 D0 g D ∧ ∀ n : Nat, g n ≠ 0 → g0 n ≠ 0 ∨ ∃ (j : Nat) (a : Asg), j < 10 ∧ D n = fx (bef o j) a f) ∧ S 9 ≤ B
section DRW
variable {L : Nat → Nat → Int64} {E : (Nat → Prop) × (Nat → Option PE)} {R : Nat × Nat} {B e : Nat} {o rt g0 : Nat → Nat} {D0 : Nat → Fn} {f : Fn} {ad S : Nat → Nat} {I : Nat → Nat → Nat} {ln : Nat → Nat} {z : Nat × Nat} {u : PS} {g : Nat → Nat} {D : Nat → Fn}
theorem DG.put (h : DG L E R B e o rt g0 D0 f ad S I ln z u g D) {u' : PS} {I' : Nat → Nat → Nat} {L' : Nat → Nat → Int64} (hv : VC 69 ad S I' ln L' E z u') (hi : ∀ i : Nat, 7 ≤ i → i < 24 → I' i = I i) : DG L' E R B e o rt g0 D0 f ad S I' ln z u' g D := by
  obtain ⟨a1, a2, a3, a4, a5, a6, a7⟩ := h
  exact ⟨hv, a2, a3.cong (fun j q1 q2 _ _ => hi j q1 q2) rfl rfl rfl (fun _ _ => rfl), by rw [hi 8 (by omega) (by omega)]; exact a4, a5, a6, a7⟩
theorem DG.mk (h : DG L E R B e o rt g0 D0 f ad S I ln z u g D) (ho : PO o) {a b j : Nat} (hj : j < 10) (ha : IN g a) (hb : IN g b) (da : ¬ dep (D a) (o j)) (db : ¬ dep (D b) (o j)) (hf : ∃ A : Asg, iteF (o j) (D a) (D b) = fx (bef o j) A f) (hr : S 10 + 2 < 2 ^ e ∨ a = b ∨ ∃ n : Nat, g n = cd (o j) a b) (hB : S 10 + 3 ≤ B)
    {Q : Int32 → PS → Prop} (hQ : ∀ (u' : PS) (m : Nat) (ad' S' : Nat → Nat) (I' : Nat → Nat → Nat) (ln' : Nat → Nat) (z' : Nat × Nat) (g' : Nat → Nat) (D' : Nat → Fn), DG L E R B e o rt g0 D0 f ad' S' I' ln' z' u' g' D' → IN g' m → D' m = iteF (o j) (D a) (D b) → KP g D g' D' → FN S I S' I' → FA ad ln ad' ln' → S' 10 ≤ S 10 + 1 → ((a = b ∨ ∃ n : Nat, g n = cd (o j) a b) → S' 10 = S 10) → (a ≠ b → ∃ n : Nat, g' n = cd (o j) a b) → Q (nI m) u') : p_N_nodeFor (ad 4) (nI (o j)) (nI a) (nI b) u Q := by
  obtain ⟨a1, a2, a3, a4, a5, ⟨a6, a6'⟩, a7⟩ := h
  obtain ⟨A, hA⟩ := hf
  have nb : ∀ j' : Nat, j' < j → ¬ dep (iteF (o j) (D a) (D b)) (o j') := fun j' hj' => by
    rw [hA]; exact fx_nd (bef_iff.mpr ⟨j', hj', rfl⟩) _ _
  have hd : a ≠ b → dep (iteF (o j) (D a) (D b)) (o j) := fun hab q => hab (a5.inj ha hb (by
    rw [cof_ite, cof_ite, if_neg (by decide), if_pos rfl, not_dep da, not_dep db] at q
    exact q))
  refine mkN a1 a2 a3 a4 a5 (ho.1 j hj) ha hb da db (fun _ => ⟨j, hj, rfl, nb⟩) (fun hab k' hk' hdk => hk'.uniq hdk (hd hab) nb) (fun _ t ht => absurd ht (fun w => w)) (fun t ht => absurd ht (fun w => w)) (fun hab hno => ?_) (fun u' m ad' S' I' ln' z' g' D' v1 v2 v3 v4 v5 v6 v7 v8 v9 v10 v11 v12 v13 v14 => ?_)
  · rcases hr with q | q | ⟨n, q⟩
    · exact q
    · exact absurd q hab
    · exact absurd q (hno n)
  · have kp : KP g D g' D' := v7.1
    have hm := MD_D v5 (kp a ha).1 (kp b hb).1 v6
    rw [(kp a ha).2.1, (kp b hb).2.1] at hm
    have gg : (a = b ∨ ∃ n : Nat, g n = cd (o j) a b) → g' = g := fun q => by
      rcases v13 with w | ⟨_, w2, w3⟩
      · exact w
      · rcases q with q | ⟨n, q⟩
        · exact absurd q w2
        · exact absurd q (w3 n)
    refine hQ u' m ad' S' I' ln' z' g' D' ⟨v1, v2, v3, v4, v5, ⟨a6.tr kp, fun n hn => ?_⟩, ?_⟩ hm.1 hm.2 kp v8 v9 v10 (fun q => v14 (gg q)) (fun hab => ?_)
    · rcases v7.2 n hn with q | q
      · rcases a6' n q with w | ⟨j', A', w1, w2⟩
        · exact Or.inl w
        · exact Or.inr ⟨j', A', w1, by rw [(kp n (Or.inr q)).2.1]; exact w2⟩
      · subst q
        exact Or.inr ⟨j, A, hj, by rw [hm.2, hA]⟩
    · rcases v11 with q | q
      · omega
      · omega
    · rcases v6 with q | q
      · exact absurd q.1 hab
      · exact ⟨m, q.2⟩
/-- the parts at the levels from .. to -/
def FAM (o pl : Nat → Nat) (f : Fn) (fr to : Nat) (h : Nat → Nat → Fn) : Prop := ∀ i : Nat, fr ≤ i → i < to → pl i < 10 ∧ ∀ x : Nat, ¬ dep (h i x) (o (pl i)) ∧ h (i + 1) x = iteF (o (pl i)) (h i (2 * x)) (h i (2 * x + 1)) ∧ ∃ A : Asg, h (i + 1) x = fx (bef o (pl i)) A f
/-- what a row of numbers stands for -/
def RWP (g : Nat → Nat) (D : Nat → Fn) (row : Nat → Nat) (h : Nat → Fn) (a b : Nat) : Prop := ∀ y : Nat, a ≤ y → y < b → IN g (row y) ∧ D (row y) = h y
theorem RWP.kp {g' : Nat → Nat} {D' : Nat → Fn} {row : Nat → Nat} {h : Nat → Fn} {a b : Nat} (r : RWP g D row h a b) (k : KP g D g' D') : RWP g' D' row h a b := fun y h1 h2 => by
  have := r y h1 h2
  exact ⟨(k _ this.1).1, by rw [(k _ this.1).2.1]; exact this.2⟩
/-- what is left as it was while a row q of the drawing is written -/
def FQ (q : Nat) (ad S : Nat → Nat) (I : Nat → Nat → Nat) (ln ad' S' : Nat → Nat) (I' : Nat → Nat → Nat) (ln' : Nat → Nat) : Prop := (∀ i : Nat, i < 7 ∨ 24 ≤ i → i ≠ q → I' i = I i) ∧ (∀ s : Nat, s ≠ 8 → s ≠ 9 → s ≠ 10 → S' s = S s) ∧ I' 13 = I 13 ∧ FA ad ln ad' ln'
theorem FQ.rf (q : Nat) (ad S : Nat → Nat) (I : Nat → Nat → Nat) (ln : Nat → Nat) : FQ q ad S I ln ad S I ln := ⟨fun _ _ _ => rfl, fun _ _ _ _ => rfl, rfl, FA.rf ad ln⟩
theorem FQ.tr {q : Nat} {ad' S' : Nat → Nat} {I' : Nat → Nat → Nat} {ln' ad'' S'' : Nat → Nat} {I'' : Nat → Nat → Nat} {ln'' : Nat → Nat} (h : FQ q ad S I ln ad' S' I' ln') (k : FQ q ad' S' I' ln' ad'' S'' I'' ln'') : FQ q ad S I ln ad'' S'' I'' ln'' :=
  ⟨fun i hi hq => (k.1 i hi hq).trans (h.1 i hi hq), fun s a b c => (k.2.1 s a b c).trans (h.2.1 s a b c), k.2.2.1.trans h.2.2.1, h.2.2.2.tr k.2.2.2⟩
theorem FQ.of {q : Nat} {ad' S' : Nat → Nat} {I' : Nat → Nat → Nat} {ln' : Nat → Nat} (h : FN S I S' I') (k : FA ad ln ad' ln') : FQ q ad S I ln ad' S' I' ln' := ⟨fun i hi _ => h.1 i hi, h.2.1, h.2.2, k⟩
theorem FQ.is {q : Nat} (hq : 24 ≤ q) (r : Nat → Nat) : FQ q ad S I ln ad S (va_up I q r) ln := ⟨fun i _ hi => up_ne _ _ hi, fun _ _ _ _ => rfl, up_ne _ _ (by omega), FA.rf ad ln⟩
theorem q_fold_L34 (ho : PO o) {pl : Nat → Nat} {h : Nat → Nat → Fn} {fr to i q T len : Nat} (hF : FAM o pl f fr to h) (h1 : fr ≤ i) (h2 : i < to) (hq : 30 < q ∧ q < 37) (hT : T + 2 ≤ 2 ^ e) (hB : T + 3 ≤ B) (hlen : 2 * len ≤ ln q) (hl31 : ln q < 2 ^ 31) {x3 x5 : Int32} {X : PS → Prop} {ad0 S0 : Nat → Nat} {I0 : Nat → Nat → Nat} {ln0 : Nat → Nat} {gb : Nat → Nat} {Db : Nat → Fn} (e3 : ad0 3 = ad 3) (e4 : ad0 q = ad q) (e5 : ln0 q = ln q)
    (hX : ∀ (u' : PS) (ad' S' : Nat → Nat) (I' : Nat → Nat → Nat) (ln' : Nat → Nat) (z' : Nat × Nat) (g' : Nat → Nat) (D' : Nat → Fn), DG L E R B e o rt g0 D0 f ad' S' I' ln' z' u' g' D' → RWP g' D' (I' q) (h (i + 1)) 0 len → S' 10 + (len - 1) ≤ T → FQ q ad0 S0 I0 ln0 ad' S' I' ln' → KP gb Db g' D' → X u') :
    ∀ (d x : Nat) (u : PS) (ad' S' : Nat → Nat) (I' : Nat → Nat → Nat) (ln' : Nat → Nat) (z' : Nat × Nat) (g' : Nat → Nat) (D' : Nat → Fn), len < x + d → x ≤ len → DG L E R B e o rt g0 D0 f ad' S' I' ln' z' u g' D' → RWP g' D' (I' q) (h (i + 1)) 0 x → RWP g' D' (I' q) (h i) (2 * x) (2 * len) → S' 10 + (len - x) + (len - 1) ≤ T → FQ q ad0 S0 I0 ln0 ad' S' I' ln' → KP gb Db g' D' → p_G_folded_L34 (ad 3) (ad q) x3 (nI len) x5 (nI (o (pl i))) X d (nI x) u := by
  intro d
  induction d with
  | zero => intro x u ad' S' I' ln' z' g' D' w1 w2; exact absurd w1 (by omega)
  | succ d ih =>
    intro x u ad' S' I' ln' z' g' D' w1 w2 hg ra rb hs fq kp
    have fa := fq.2.2.2
    have q3 : ad' 3 = ad 3 := ((fa 3 (by omega)).1).trans e3
    have q4 : ad' q = ad q := ((fa q (by omega)).1).trans e4
    have q5 : ln' q = ln q := ((fa q (by omega)).2).trans e5
    rw [p_G_folded_L34]
    refine pk_le len x (fun cc => ?_) (fun cc => ?_)
    · obtain rfl : x = len := by omega
      exact hX u ad' S' I' ln' z' g' D' hg ra (by omega) fq kp
    · have hv := hg.1
      obtain ⟨p10, hx⟩ := hF i h1 h2
      have r0 := hv.ia q (by omega) (ii (by omega)) (j := 2 * x) (by omega) (by omega)
      have r1 := hv.ia q (by omega) (ii (by omega)) (j := 2 * x + 1) (by omega) (by omega)
      rw [q4] at r0 r1
      have b0 := rb (2 * x) (Nat.le_refl _) (by omega)
      have b1 := rb (2 * x + 1) (by omega) (by omega)
      have hit : iteF (o (pl i)) (D' (I' q (2 * x))) (D' (I' q (2 * x + 1))) = h (i + 1) x := by rw [b0.2, b1.2, (hx x).2.1]
      rw [← q3, show (2 : Int32) = nI 2 from rfl, pk_mul, show (1 : Int32) = nI 1 from rfl, nI_add]
      refine ⟨_, hv.fG (by decide) rfl, _, r0, _, r1, hv.obN (by decide), hg.mk ho p10 b0.1 b1.1 (by rw [b0.2]; exact (hx _).1) (by rw [b1.2]; exact (hx _).1) (by rw [hit]; exact (hx x).2.2) (Or.inl (by omega)) (by omega) (fun u1 m ad1 S1 I1 ln1 z1 g1 D1 v1 v2 v3 v4 v5 v6 v7 v8 v9 => ?_)⟩
      rw [hit] at v3
      have f4 : ad1 q = ad' q := (v6 q (by omega)).1
      have f5 : ln1 q = ln' q := (v6 q (by omega)).2
      have fI : I1 q = I' q := v5.1 q (by omega)
      obtain ⟨u2, s2, k2⟩ := v1.1.isx q (by omega) (ii (by omega)) (j := x) (by omega) (by omega) m
      rw [f4, q4] at s2
      refine ⟨u2, s2, nm_e ?_⟩
      rw [nI_add, q3]
      refine ih (x + 1) u2 ad1 S1 _ ln1 z1 g1 D1 (by omega) (by omega) (v1.put k2 (fun i q1 q2 => up_ne _ _ (by omega))) (fun y y1 y2 => ?_) (fun y y1 y2 => ?_) (by omega) (fq.tr ((FQ.of v5 v6).tr (FQ.is (by omega) _))) (kp.tr v4)
      · rw [up_eq]
        by_cases c : y = x
        · subst c; rw [up_eq]; exact ⟨v2, v3⟩
        · rw [up_ne _ _ c, fI]; exact (ra.kp v4) y y1 (by omega)
      · rw [up_eq, up_ne _ _ (by omega), fI]; exact (rb.kp v4) y (by omega) y2
theorem pw_half : ∀ n : Nat, n < 6 → nI (2 ^ (n + 1)) / (2 : Int32) = nI (2 ^ n) := by decide +kernel
theorem q_fold_L10 (ho : PO o) {pl : Nat → Nat} {h : Nat → Nat → Fn} {fr to q T : Nat} (hF : FAM o pl f fr to h) (hto : to ≤ 10) (hft : to ≤ fr + 6) (hq : 30 < q ∧ q < 37) (hT : T + 2 ≤ 2 ^ e) (hB : T + 3 ≤ B) {X : PS → Prop} {ad0 S0 : Nat → Nat} {I0 : Nat → Nat → Nat} {ln0 : Nat → Nat} {gb : Nat → Nat} {Db : Nat → Fn} (hlen : 2 ^ (to - fr) ≤ ln0 q) (hl31 : ln0 q < 2 ^ 31) (l30 : ln0 30 = 10) (hA : ∀ i : Nat, i < to → I0 30 i = o (pl i))
    (hX : ∀ (u' : PS) (ad' S' : Nat → Nat) (I' : Nat → Nat → Nat) (ln' : Nat → Nat) (z' : Nat × Nat) (g' : Nat → Nat) (D' : Nat → Fn), DG L E R B e o rt g0 D0 f ad' S' I' ln' z' u' g' D' → RWP g' D' (I' q) (h to) 0 1 → S' 10 ≤ T → FQ q ad0 S0 I0 ln0 ad' S' I' ln' → KP gb Db g' D' → X u') :
    ∀ (d i : Nat) (u : PS) (ad' S' : Nat → Nat) (I' : Nat → Nat → Nat) (ln' : Nat → Nat) (z' : Nat × Nat) (g' : Nat → Nat) (D' : Nat → Fn), to < i + d → fr ≤ i → i ≤ to → DG L E R B e o rt g0 D0 f ad' S' I' ln' z' u g' D' → RWP g' D' (I' q) (h i) 0 (2 ^ (to - i)) → S' 10 + (2 ^ (to - i) - 1) ≤ T → FQ q ad0 S0 I0 ln0 ad' S' I' ln' → KP gb Db g' D' → p_G_folded_L10 (ad0 3) (ad0 q) (nI to) X d (nI (2 ^ (to - i))) (nI i) u := by
  intro d
  induction d with
  | zero => intro i u ad' S' I' ln' z' g' D' w1 w2 w3; exact absurd w1 (by omega)
  | succ d ih =>
    intro i u ad' S' I' ln' z' g' D' w1 w2 w3 hg ra hs fq kp
    have fa := fq.2.2.2
    have q3 : ad' 3 = ad0 3 := (fa 3 (by omega)).1
    have q4 : ad' q = ad0 q := (fa q (by omega)).1
    have q5 : ln' q = ln0 q := (fa q (by omega)).2
    have q6 : ad' 30 = ad0 30 := (fa 30 (by omega)).1
    have q7 : ln' 30 = ln0 30 := (fa 30 (by omega)).2
    have i30 : I' 30 = I0 30 := fq.1 30 (by omega) (by omega)
    rw [p_G_folded_L10]
    refine pk_le to i (fun cc => ?_) (fun cc => ?_)
    · obtain rfl : i = to := by omega
      rw [Nat.sub_self] at ra
      exact hX u ad' S' I' ln' z' g' D' hg ra (by omega) fq kp
    · have hv := hg.1
      have r30 := hv.ia 30 (by omega) (ii (by omega)) (j := i) (by omega) (by omega)
      rw [i30, hA i cc] at r30
      have ep : to - i = (to - (i + 1)) + 1 := by omega
      have p2 : 2 ^ (to - i) = 2 * 2 ^ (to - (i + 1)) := by rw [ep, Nat.pow_succ]; omega
      have pm : 2 ^ (to - i) ≤ 2 ^ (to - fr) := Nat.pow_le_pow_right (by decide) (by omega)
      have pp : 0 < 2 ^ (to - (i + 1)) := Nat.pow_pos (by decide)
      rw [← q3]
      refine ⟨_, hv.fG (by decide) rfl, _, r30, by decide, nm_e ⟨2 ^ (to - (i + 1)) + 1, ?_⟩⟩
      rw [show nI (2 ^ (to - i)) = nI (2 ^ (to - (i + 1) + 1)) by rw [← ep], pw_half _ (by omega), ← q4]
      refine q_fold_L34 (ad := ad') (ln := ln') ho hF w2 cc hq hT hB (by rw [q5]; omega) (by omega) q3.symm q4.symm q5.symm (fun u1 ad1 S1 I1 ln1 z1 g1 D1 v1 v2 v3 v4 v5 => ?_) (2 ^ (to - (i + 1)) + 1) 0 u ad' S' I' ln' z' g' D' (by omega) (by omega) hg (fun y _ y2 => absurd y2 (by omega)) (by rw [← p2]; exact ra) (by omega) fq kp
      unfold p_G_folded_J74
      refine nm_e ?_
      rw [show (1 : Int32) = nI 1 from rfl, nI_add, q3, q4]
      exact ih (i + 1) u1 ad1 S1 I1 ln1 z1 g1 D1 (by omega) (by omega) (by omega) v1 v2 v3 v4 v5
theorem q_G_folded (hg : DG L E R B e o rt g0 D0 f ad S I ln z u g D) (ho : PO o) {pl : Nat → Nat} {h : Nat → Nat → Fn} {fr to q T : Nat} (hF : FAM o pl f fr to h) (hft : fr ≤ to) (hto : to ≤ 10) (hf6 : to ≤ fr + 6) (hq : 30 < q ∧ q < 37) (hT : T + 2 ≤ 2 ^ e) (hB : T + 3 ≤ B) (hlen : 2 ^ (to - fr) ≤ ln q) (hl31 : ln q < 2 ^ 31) (l30 : ln 30 = 10) (hA : ∀ i : Nat, i < to → I 30 i = o (pl i)) (hr : RWP g D (I q) (h fr) 0 (2 ^ (to - fr))) (hs : S 10 + (2 ^ (to - fr) - 1) ≤ T)
    {Q : Int32 → PS → Prop} (hQ : ∀ (u' : PS) (m : Nat) (ad' S' : Nat → Nat) (I' : Nat → Nat → Nat) (ln' : Nat → Nat) (z' : Nat × Nat) (g' : Nat → Nat) (D' : Nat → Fn), DG L E R B e o rt g0 D0 f ad' S' I' ln' z' u' g' D' → IN g' m → D' m = h to 0 → S' 10 ≤ T → FQ q ad S I ln ad' S' I' ln' → KP g D g' D' → Q (nI m) u') : p_G_folded (ad 3) (ad q) (nI fr) (nI to) u Q := by
  have pp : 0 < 2 ^ (to - fr) := Nat.pow_pos (by decide)
  unfold p_G_folded
  rw [pk_sub hft, nI_pw (by omega)]
  refine nm_e ⟨to + 1, q_fold_L10 ho hF hto hf6 hq hT hB hlen hl31 l30 hA (fun u1 ad1 S1 I1 ln1 z1 g1 D1 v1 v2 v3 v4 v5 => ?_) (to + 1) fr u ad S I ln z g D (by omega) (Nat.le_refl _) hft hg hr hs (FQ.rf q ad S I ln) (KP.rf g D)⟩
  unfold p_G_folded_J80
  have fa := v4.2.2.2
  have r0 := v1.1.ia q (by omega) (ii (by omega)) (j := 0) (by rw [(fa q (by omega)).2]; omega) (by rw [(fa q (by omega)).2]; omega)
  rw [(fa q (by omega)).1] at r0
  have w := v2 0 (Nat.le_refl _) (by omega)
  exact ⟨_, r0, hQ u1 _ ad1 S1 I1 ln1 z1 g1 D1 v1 w.1 w.2 v3 v4 v5⟩
end DRW
