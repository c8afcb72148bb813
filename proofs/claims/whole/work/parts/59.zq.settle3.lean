/-! Diagrams: settle() -/
section ST3
variable {L : Nat → Nat → Int64} {E : (Nat → Prop) × (Nat → Option PE)} {R : Nat × Nat} {o : Nat → Nat} {F : Nat → Nat → Bool} {rt ad S : Nat → Nat} {I : Nat → Nat → Nat} {ln : Nat → Nat} {z : Nat × Nat} {u : PS} {e t n : Nat} {g : Nat → Nat} {D : Nat → Fn}
theorem sift_of {k lst bb : Nat} (h : MI2 (Wc F (remO o (posO o k)) k) 9 lst bb) : siftP F o k = bb := by
  obtain ⟨h1, h2, h3, h4⟩ := h
  exact bst_uniq h2 (fun i hi => by have := h3 i hi; rw [h1] at this; exact this) (fun i hi => by have := h4 i hi; rw [h1] at this; exact this)
theorem q_D_settle (h : OS L E R F rt n o ad S I ln z u e t g D) (ho : PO o) {k : Nat} (hk : k < 10) (hn : n + 1 < 2 ^ 31) {Q : Int32 → PS → Prop} (hQ : ∀ (u' : PS) (e' t' : Nat) (ad' S' : Nat → Nat) (I' : Nat → Nat → Nat) (ln' : Nat → Nat) (z' : Nat × Nat) (g' : Nat → Nat) (D' : Nat → Fn), OS L E R F rt (n + 1) (siftO F o k) ad' S' I' ln' z' u' e' t' g' D' → FSD ad S I ln ad' S' I' ln' → Q (nI (siftP F o k)) u') : p_D_settle (ad 2) (nI k) u Q := by
  obtain ⟨ns, h37, ⟨l37, l39, l6⟩, fb, h3, hmo, ts, hte, hm1, hm2⟩ := h
  obtain ⟨p1, p2⟩ := posO_spec ho hk
  have hr := remO_PR9 ho hk
  have hins : insO (remO o (posO o k)) (posO o k) k = o := mvO_self ho hk
  have l9 : ln 9 = 10 := ns.2.1.2.2.1.2.2.1
  -- at the end
  have J76 : ∀ (u2 : PS) (e2 t2 bb : Nat) (ad2 S2 : Nat → Nat) (I2 : Nat → Nat → Nat) (ln2 : Nat → Nat) (z2 : Nat × Nat) (g2 : Nat → Nat) (D2 : Nat → Fn), NS L E R B0 (insO (remO o (posO o k)) bb k) F rt ad2 S2 I2 ln2 z2 u2 e2 g2 D2 → FSD ad S I ln ad2 S2 I2 ln2 → S2 5 = bb → siftP F o k = bb → bb < 10 → (∀ j : Nat, j < 9 → I2 37 j = remO o (posO o k) j) → (S2 3 = 0 ∨ S2 3 = 1) → (S2 3 = 1 → MOK F I2) → TSH ln2 t2 → t2 ≤ e2 → (∀ m : Nat, I2 25 m ≤ S2 14) → S2 14 ≤ n + 1 → p_D_settle_J76 Q (ad 2) (nI k) u2 := by
    intro u2 e2 t2 bb ad2 S2 I2 ln2 z2 g2 D2 q1 q2 qb qs ht q3 q4 q5 q6 q7 q8 q9
    have E2 : ad2 2 = ad 2 := (q2.1 2 (by omega)).1
    have l37' : ln2 37 = 10 := by rw [(q2.1 37 (by omega)).2]; exact l37
    unfold p_D_settle_J76
    rw [← E2]
    refine ⟨_, q1.1.fD (by decide) rfl, q1.1.obD (by decide), ?_⟩
    rw [qb]
    refine q_D_putIn q1.1 l37' q3 ht (fun u3 f3 v1 v2 => ⟨_, v1.fD (by decide) rfl, ?_⟩)
    rw [qb, ← qs]
    refine hQ u3 e2 t2 ad2 S2 (va_up I2 37 f3) ln2 z2 g2 D2 ⟨?_, fun j hj => ?_, ⟨l37', by rw [(q2.1 39 (by omega)).2]; exact l39, by rw [(q2.1 6 (by omega)).2]; exact l6⟩, ?_, q4, q5, q6, q7, q8, q9⟩ (q2.tr ⟨fun _ _ => ⟨rfl, rfl⟩, fun i hi => up_ne _ _ (by omega), fun _ _ => rfl, fun _ hb => hb⟩)
    · have := q1.put v1 (fun _ _ _ => rfl) (fun i _ _ => up_ne _ _ (by omega))
      unfold siftO
      rw [qs]
      exact this
    · rw [up_eq, v2 j hj]
      unfold siftO
      rw [qs]
      rfl
    · exact (fb.fr q2).fr (ad := ad2) (ln := ln2) (ad' := ad2) (ln' := ln2) ⟨fun _ _ => ⟨rfl, rfl⟩, fun i hi => up_ne _ _ (by omega), fun _ _ => rfl, fun _ hb => hb⟩
  unfold p_D_settle
  refine ⟨ns.1.obD (by decide), q_D_takeOut ns.1 l37 ho h37 hk (fun u1 f h1 hf => ?_)⟩
  obtain ⟨u2, s2, h2⟩ := h1.sD (by decide) 11 5 0 (by decide) rfl rfl rfl rfl
  refine ⟨u2, s2, ?_⟩
  have ns2 : NS L E R B0 o F rt ad (va_up (va_up S 4 (posO o k)) 5 0) (va_up I 37 f) ln z u2 e g D := ns.put h2 (fun s _ _ => by rw [up_ne _ _ (by omega), up_ne _ _ (by omega)]) (fun i _ _ => up_ne _ _ (by omega))
  have fr2 : FSD ad S I ln ad (va_up (va_up S 4 (posO o k)) 5 0) (va_up I 37 f) ln := ⟨fun _ _ => ⟨rfl, rfl⟩, fun i hi => up_ne _ _ (by omega), fun s hs => by rw [up_ne _ _ (by omega), up_ne _ _ (by omega)], fun b hb m => hb m⟩
  have S23 : va_up (va_up S 4 (posO o k)) 5 0 3 = S 3 := rfl
  refine ⟨_, h2.fD (by decide) rfl, h2.obN (by decide), q_N_asksFor h2 l9 hk ?_⟩
  rw [up_ne I _ (show (9 : Nat) ≠ 37 by decide)]
  have a9 : I 9 k ≤ 16384 := MBR.le ns.2.2.1.2.2.2.2.2.2.1 (N := 16384) (fun m hm => by have := ns.2.2.1.2.2.1 m hm.1; have := ns.2.2.1.2.2.2.1; have := ns.2.1.le; omega) hk
  -- where it has no mates the size is the same everywhere
  have same : ∀ hno : (∀ y : Nat, y < 10 → y ≠ k → ∀ p : Nat, p < 24 → ¬ (dep (fnOf (F p)) k ∧ dep (fnOf (F p)) y)), siftP F o k = 0 := fun hno => by
    have hm0 : MTS F k 0 := ⟨by omega, fun y hy hne _ p hp => hno y hy hne p hp⟩
    have w := W_none (F := F) (mt := 0) hr hm0 9 (by omega) (by
      have key : ∀ m : Nat, mC 0 (remO o (posO o k)) m = 0 := by
        intro m
        induction m with
        | zero => rfl
        | succ m ih => rw [mC_s, ih, Nat.zero_testBit]; rfl
      exact key 9)
    exact bst_uniq (Nat.zero_le _) (fun i hi => Nat.le_of_eq ((w 0 (by omega)).trans (w i hi).symm)) (fun i hi => absurd hi (by omega))
  refine pk_le (I 9 k) 0 (fun w => ?_) (fun w => ?_)
  · have hun := ns.unused ho hk (by omega)
    have hno : ∀ y : Nat, y < 10 → y ≠ k → ∀ p : Nat, p < 24 → ¬ (dep (fnOf (F p)) k ∧ dep (fnOf (F p)) y) := fun y _ _ p hp w2 => hun p hp w2.1
    unfold p_D_settle_J30
    refine ⟨fun _ => ?_, fun q => absurd rfl q⟩
    refine J76 u2 e t 0 ad _ _ ln z g D (NS.slide2 hr hk hno p1 (by omega) (by rw [hins]; exact ns2)) fr2 (up_eq _ _ _) (same hno) (by omega) (fun j hj => by rw [up_eq]; exact hf j hj) (by rw [S23]; exact h3) (fun q => ?_) ts hte hm1 (by show S 14 ≤ n + 1; omega)
    rw [S23] at q
    exact hmo q
  · have hxa := ns.used ho hk (by omega)
    refine ⟨h2.obD (by decide), q_D_matesOf h2 l39 l6 (fb.fr fr2) h3 hmo hk (fun u3 S3 I3 q1 q2 q3 q4 q5 => ?_)⟩
    have ns3 : NS L E R B0 o F rt ad S3 I3 ln z u3 e g D := ns2.put q1 (fun s _ _ => q4 s (by omega)) (fun i _ _ => q5 i (by omega))
    have fr3 : FSD ad S I ln ad S3 I3 ln := fr2.tr ⟨fun _ _ => ⟨rfl, rfl⟩, fun i hi => q5 i (by omega), fun s hs => q4 s (by omega), fun b hb m => by rw [q5 13 (by decide)]; exact hb m⟩
    have r37 : ∀ j : Nat, j < 9 → I3 37 j = remO o (posO o k) j := fun j hj => by rw [q5 37 (by decide), up_eq]; exact hf j hj
    obtain ⟨mts, mtt⟩ := q3.s hk
    have S34 : S3 4 = posO o k := by rw [q4 4 (by decide)]; rfl
    have S314 : S3 14 = S 14 := by rw [q4 14 (by decide)]; rfl
    have I325 : ∀ m : Nat, I3 25 m ≤ S3 14 := fun m => by rw [q5 25 (by decide), S314]; exact hm1 m
    unfold p_D_settle_J30
    refine ⟨fun w2 => ?_, fun w2 => ?_⟩
    · have w0 : I3 39 k = 0 := (nI_0I (by have := mts.1; omega)).mp w2
      have hno : ∀ y : Nat, y < 10 → y ≠ k → ∀ p : Nat, p < 24 → ¬ (dep (fnOf (F p)) k ∧ dep (fnOf (F p)) y) := fun y hy hne p hp => mts.2 y hy hne (by rw [w0, Nat.zero_testBit]) p hp
      exact J76 u3 e t 0 ad S3 I3 ln z g D (NS.slide2 hr hk hno p1 (by omega) (by rw [hins]; exact ns3)) fr3 (by rw [q4 5 (by decide)]; rfl) (same hno) (by omega) r37 (Or.inr q2) (fun _ => q3) ts hte I325 (by rw [S314]; omega)
    · obtain ⟨u4, s4, h4⟩ := q1.sD (by decide) 11 5 (posO o k) (by decide) rfl rfl rfl rfl
      refine ⟨_, q1.fD (by decide) rfl, ?_⟩
      rw [S34]
      refine ⟨u4, s4, _, h4.fD (by decide) rfl, h4.obN (by decide), ?_⟩
      unfold p_N_wholeSize
      refine ⟨_, h4.fN (by decide) rfl, ?_⟩
      obtain ⟨u5, s5, h5⟩ := h4.sD (by decide) 12 6 (S3 10) (by decide) rfl rfl rfl rfl
      refine ⟨u5, s5, h5.obD (by decide), ?_⟩
      have hss : ∀ s : Nat, s ≠ 5 → s ≠ 6 → va_up (va_up S3 5 (posO o k)) 6 (S3 10) s = S3 s := fun s a b => by rw [up_ne _ _ b, up_ne _ _ a]
      have ns5 : NS L E R B0 o F rt ad (va_up (va_up S3 5 (posO o k)) 6 (S3 10)) I3 ln z u5 e g D := ns3.put h5 (fun s _ _ => hss s (by omega) (by omega)) (fun _ _ _ => rfl)
      have fr5 : FSD ad S I ln ad (va_up (va_up S3 5 (posO o k)) 6 (S3 10)) I3 ln := fr3.tr ⟨fun _ _ => ⟨rfl, rfl⟩, fun _ _ => rfl, fun s hs => hss s (by omega) (by omega), fun _ hb => hb⟩
      have hw : S3 10 = Wc F (remO o (posO o k)) k (posO o k) := by
        rw [ns3.size ho]
        unfold Wc
        rw [hins]
      refine q_D_rise ns5 ho hins hr hk p1 mts mtt hxa l37 r37 ts hte (by rw [hss 14 (by decide) (by decide), S314]; omega) (fun m => by rw [hss 14 (by decide) (by decide)]; exact I325 m) (by rw [hss 4 (by decide) (by decide)]; exact S34) (by rw [up_ne _ _ (by decide), up_eq]) (by rw [up_eq]; exact hw) (fun u6 e6 t6 ad6 S6 I6 ln6 z6 v1 v2 v3 v4 v5 v6 v7 => ?_)
      have E26 : ad6 2 = ad 2 := (v2.1 2 (by omega)).1
      rw [← E26]
      have l376 : ln6 37 = 10 := by rw [(v2.1 37 (by omega)).2.1]; exact l37
      have r376 : ∀ j : Nat, j < 9 → I6 37 j = remO o (posO o k) j := fun j hj => by rw [(v2.1 37 (by omega)).2.2]; exact r37 j hj
      have S64 : S6 4 = posO o k := by rw [v2.2.1 4 (by decide) (by decide) (by decide) (by decide) (by decide) (by decide) (by decide), hss 4 (by decide) (by decide)]; exact S34
      refine ⟨v1.1.obD (by decide), q_D_sink v1 ho hins hr hk p1 mts hxa l376 r376 v3 v4 v5 S64 v7 (fun u7 e7 t7 ad7 S7 I7 ln7 z7 y1 y2 y3 y4 y5 y6 y7 => ?_)⟩
      have E27 : ad7 2 = ad6 2 := (y2.1 2 (by omega)).1
      rw [← E27]
      have l377 : ln7 37 = 10 := by rw [(y2.1 37 (by omega)).2.1]; exact l376
      have r377 : ∀ j : Nat, j < 9 → I7 37 j = remO o (posO o k) j := fun j hj => by rw [(y2.1 37 (by omega)).2.2]; exact r376 j hj
      have S74 : S7 4 = posO o k := by rw [y2.2.1 4 (by decide) (by decide) (by decide) (by decide) (by decide) (by decide) (by decide)]; exact S64
      have hbst := sift_of y7
      have hb9 : S7 5 < 10 := by have := y7.2.1; omega
      refine ⟨_, y1.1.fD (by decide) rfl, y1.1.obD (by decide), ?_⟩
      have fr7 : FSD ad S I ln ad7 S7 I7 ln7 := (fr5.tr (FSD.ftb v2)).tr (FSD.ftb y2)
      refine q_D_pass (by rw [hins]; exact y1) hr hk mts hb9 p1 S74 l377 r377 (fun u8 e8 ad8 S8 I8 ln8 z8 g8 D8 x1 x2 => ?_)
      have e78 : e7 ≤ e8 := SH.ge y1.2.1 x1.2.1 x2.2.2.2
      have s14 : S8 14 = S7 14 := x2.2.1 14 (by omega)
      have S83 : S8 3 = 1 := by
        rw [x2.2.1 3 (by omega), y2.2.1 3 (by decide) (by decide) (by decide) (by decide) (by decide) (by decide) (by decide), v2.2.1 3 (by decide) (by decide) (by decide) (by decide) (by decide) (by decide) (by decide), hss 3 (by decide) (by decide)]
        exact q2
      have I839 : I8 39 = I3 39 := by rw [(x2.1 39 (by omega)).2.2, (y2.1 39 (by omega)).2.2, (v2.1 39 (by omega)).2.2]
      have q14 : S6 14 ≤ S 14 + 1 := by rw [hss 14 (by decide) (by decide), S314] at v6; exact v6
      have E2f : ad7 2 = ad 2 := E27.trans E26
      rw [E2f]
      refine J76 u8 e8 t7 (S7 5) ad8 S8 I8 ln8 z8 g8 D8 x1 (fr7.tr (FSD.fg x2)) (x2.2.1 5 (by omega)) hbst hb9 (fun j hj => by rw [(x2.1 37 (by omega)).2.2]; exact r377 j hj) (Or.inr S83) (fun _ => ?_) (y3.fg x2) (by omega) (fun m => ?_) (by rw [s14, y6]; omega)
      · unfold MOK at q3 ⊢
        rw [I839]
        exact q3
      · rw [(x2.1 25 (by omega)).2.2, s14]
        exact y5 m
end ST3
