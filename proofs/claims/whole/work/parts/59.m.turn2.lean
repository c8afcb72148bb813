/-! turn() -/
/-- a store whose nodes of T are to be turned -/
def TT (o : Nat → Nat) (i : Nat) (g : Nat → Nat) (D : Nat → Fn) (T : Nat → Prop) : Prop := (∀ t : Nat, T t → g t ≠ 0 ∧ nk (g t) = o i ∧ dep (D t) (o (i + 1))) ∧ ∀ m : Nat, g m ≠ 0 → ¬ T m → nk (g m) = o i → ¬ dep (D m) (o (i + 1))
section TRN2
variable {ad S : Nat → Nat} {I : Nat → Nat → Nat} {ln : Nat → Nat} {L : Nat → Nat → Int64} {E : (Nat → Prop) × (Nat → Option PE)} {z R : Nat × Nat} {u : PS} {e : Nat} {g rt xt : Nat → Nat} {D : Nat → Fn} {T : Nat → Prop} {o o' : Nat → Nat} {i : Nat}
/-- what a new node of x needs: its function is what is left of a turned one's -/
theorem turn_w (hs : SW o o' i) (ho : PO o) {f : Fn} (hb : ∀ j : Nat, j < i → ¬ dep f (o j)) (hy : ¬ dep f (o (i + 1))) (hx : dep f (o i)) : W2 o o' (o i) f ∧ ∀ k' : Nat, W2 o o' k' f → dep f k' → k' = o i := by
  have h9 := hs.1
  refine ⟨Or.inl ⟨i, by omega, rfl, hb⟩, fun k' hw hd => ?_⟩
  rcases hw with hw | hw
  · exact hw.uniq hd hx hb
  · have := hw.uniq (i := i + 1) hd (by rw [hs.2.2.1]; exact hx) (fun j hj => by
      by_cases c : j = i
      · subst c; rw [hs.2.1]; exact hy
      · rw [hs.lo (show j < i by omega)]; exact hb j (by omega))
    rw [this, hs.2.2.1]
/-- one of the two new nodes -/
theorem q_N_half (h : VC 69 ad S I ln L E z u) (sh : SH R S ln z e) (ds : DS e g T S I ln) (rc : RC e g rt xt (I 8)) (hs : SW o o' i) (ho : PO o) (hc : CAN (W2 o o') g D) (ht : TT o i g D T) {a b : Nat} {f : Fn} (ha : IN g a) (hb : IN g b) (ea : D a = cof (o i) false f) (eb : D b = cof (o i) true f) (fy : ¬ dep f (o (i + 1))) (fb : ∀ j : Nat, j < i → ¬ dep f (o j)) (hr : S 10 + 2 < 2 ^ e)
    {Q : Int32 → PS → Prop} (hQ : ∀ (u' : PS) (m : Nat) (ad' S' : Nat → Nat) (I' : Nat → Nat → Nat) (ln' : Nat → Nat) (z' : Nat × Nat) (g' : Nat → Nat) (D' : Nat → Fn), VC 69 ad' S' I' ln' L E z' u' → SH R S' ln' z' e → DS e g' T S' I' ln' → RC e g' rt xt (I' 8) → CAN (W2 o o') g' D' → TT o i g' D' T → MD g' (o i) a b m → EX g D g' D' m → FN S I S' I' → FA ad ln ad' ln' → S' 10 ≤ S 10 + 1 → (S' 9 = S 9 ∨ S' 9 = S 10 + 3) → (∀ n : Nat, T n → I' 11 n = I 11 n) → Q (nI m) u') : p_N_nodeFor (ad 4) (nI (o i)) (nI a) (nI b) u Q := by
  have h9 := hs.1
  have hx10 : o i < 10 := ho.1 i (by omega)
  have da : ¬ dep (D a) (o i) := by rw [ea]; exact not_dep_cof _ _ _
  have db : ¬ dep (D b) (o i) := by rw [eb]; exact not_dep_cof _ _ _
  have ef : iteF (o i) (D a) (D b) = f := by rw [ea, eb, ite_cof]
  have dx : a ≠ b → dep f (o i) := fun hab q => hab (hc.inj ha hb (by rw [ea, eb]; exact q))
  refine mkN h sh ds rc hc hx10 ha hb da db (fun hab => by rw [ef]; exact (turn_w hs ho fb fy (dx hab)).1) (fun hab => by rw [ef]; exact (turn_w hs ho fb fy (dx hab)).2) (fun hab t tt q => ?_) (fun t tt => (ht.1 t tt).1) (fun _ _ => hr) (fun u' m ad' S' I' ln' z' g' D' w1 w2 w3 w4 w5 w6 w7 w8 w9 w10 w11 w12 w13 w14 => ?_)
  · have := (MD_D hc ha hb (Or.inr ⟨hab, q⟩)).2
    rw [ef] at this
    have h2 := (ht.1 t tt).2.2
    rw [this] at h2
    exact fy h2
  · refine hQ u' m ad' S' I' ln' z' g' D' w1 w2 w3 w4 w5 ⟨fun t tt => ?_, fun n hn hT hk => ?_⟩ w6 w7 w8 w9 w10 w11 w12
    · obtain ⟨a1, a2, a3⟩ := ht.1 t tt
      obtain ⟨b1, b2, b3⟩ := w7.1 t (Or.inr a1)
      rw [b3, b2]; exact ⟨a1, a2, a3⟩
    · rcases w7.2 n hn with q | q
      · obtain ⟨b1, b2, b3⟩ := w7.1 n (Or.inr q)
        rw [b3] at hk; rw [b2]; exact ht.2 n q hT hk
      · subst q
        have := (MD_D w5 (w7.1 a ha).1 (w7.1 b hb).1 w6).2
        rw [(w7.1 a ha).2.1, (w7.1 b hb).2.1, ef] at this
        rw [this]; exact fy
theorem q_N_turn (h : VC 69 ad S I ln L E z u) (sh : SH R S ln z e) (ds : DS e g T S I ln) (rc : RC e g rt (fun _ => 0) (I 8)) (hs : SW o o' i) (ho : PO o) (hc : CAN (W2 o o') g D) (ht : TT o i g D T) (hL : ∀ m : Nat, g m ≠ 0 → LED g rt m) {n : Nat} (hn : T n) (hr : S 10 + 4 ≤ 2 ^ e)
    {Q : PS → Prop} (hQ : ∀ (u' : PS) (ad' S' : Nat → Nat) (I' : Nat → Nat → Nat) (ln' : Nat → Nat) (z' : Nat × Nat) (g' : Nat → Nat) (D' : Nat → Fn), VC 69 ad' S' I' ln' L E z' u' → SH R S' ln' z' e → DS e g' (fun m => T m ∧ m ≠ n) S' I' ln' → RC e g' rt (fun _ => 0) (I' 8) → CAN (W2 o o') g' D' → TT o i g' D' (fun m => T m ∧ m ≠ n) → (∀ m : Nat, g' m ≠ 0 → LED g' rt m) → (∀ p : Nat, p < 24 → IN g (rt p) → IN g' (rt p) ∧ D' (rt p) = D (rt p)) → FN S I S' I' → FA ad ln ad' ln' → S' 10 ≤ S 10 + 2 → (S' 9 ≤ S 9 ∨ S' 9 ≤ S 10 + 4) → (∀ m : Nat, T m → m ≠ n → I' 11 m = I 11 m) → Q u') : p_N_turn (ad 4) (nI n) (nI (o i)) (nI (o (i + 1))) u Q := by
  have h9 := hs.1
  have hle := sh.le
  have hx10 : o i < 10 := ho.1 i (by omega)
  have hy10 : o (i + 1) < 10 := ho.1 (i + 1) (by omega)
  have hxy : o i ≠ o (i + 1) := fun q => by have := ho.2 i (i + 1) (by omega) (by omega) q; omega
  obtain ⟨hg, hk, hd⟩ := ht.1 n hn
  obtain ⟨f1, f2⟩ := turn_facts hs ho hc hg hk
  have i0 := hc.i0 hg
  have i1 := hc.i1 hg
  have l0 := ds.inlt sh i0
  have l1 := ds.inlt sh i1
  have hne := ds.inlt sh (Or.inr hg)
  have c0 : D (n0 (g n)) = cof (o i) false (D n) := by rw [← hc.c0 hg, hk]
  have c1 : D (n1 (g n)) = cof (o i) true (D n) := by rw [← hc.c1 hg, hk]
  have r7 := h.nia sh 7 n7 hne
  rw [ds.cg (Or.inr hg), cg_lt (hc.ge hg)] at r7
  have r0 := h.nia sh 7 n7 l0
  rw [ds.cg i0] at r0
  have r1' := h.nia sh 7 n7 l1
  rw [ds.cg i1] at r1'
  have w32 := (ds.2.2.1 n hg).2.2
  have k0 := ds.cglt i0
  have k1 := ds.cglt i1
  have kb : ∀ c : Nat, IN g c → kd g c < 11 := fun c hcc => by
    unfold kd
    split
    · omega
    · rcases hcc with q | q
      · omega
      · have := hc.k q; omega
  -- what follows when both halves are known
  have main : p_N_nodeFor (ad 4) (nI (o i)) (nI (pt g (o (i + 1)) false (n0 (g n)))) (nI (pt g (o (i + 1)) false (n1 (g n)))) u (fun (r_10 : Int32) (u_9 : PS) => (x_ob u_9 (ad 4) 3 ∧ (p_N_nodeFor (ad 4) (nI (o i)) (nI (pt g (o (i + 1)) true (n0 (g n)))) (nI (pt g (o (i + 1)) true (n1 (g n)))) u_9 (fun (r_12 : Int32) (u_11 : PS) => (p_N_turn_J183 Q (ad 4) (nI n) (nI (o (i + 1))) (ad 7) (ad 8) (nI (n0 (g n))) (nI (n1 (g n))) (nI (cgc g (n0 (g n)))) (nI (cgc g (n1 (g n)))) r_10 r_12 u_11))))) := by
    have pa := fun b : Bool => (f2 _ (Or.inl rfl)).2 b
    have pb := fun b : Bool => (f2 _ (Or.inr rfl)).2 b
    have qa : ∀ b : Bool, D (pt g (o (i + 1)) b (n0 (g n))) = cof (o i) false (cof (o (i + 1)) b (D n)) := fun b => by rw [(pa b).2, c0, cof_comm hxy.symm]
    have qb : ∀ b : Bool, D (pt g (o (i + 1)) b (n1 (g n))) = cof (o i) true (cof (o (i + 1)) b (D n)) := fun b => by rw [(pb b).2, c1, cof_comm hxy.symm]
    have fy : ∀ b : Bool, ¬ dep (cof (o (i + 1)) b (D n)) (o (i + 1)) := fun b => not_dep_cof _ _ _
    have fb : ∀ (b : Bool) (j : Nat), j < i → ¬ dep (cof (o (i + 1)) b (D n)) (o j) := fun b j hj q => f1 j hj (cof_dep q)
    refine q_N_half h sh ds rc hs ho hc ht (f := cof (o (i + 1)) false (D n)) (pa false).1 (pb false).1 (qa false) (qb false) (fy false) (fb false) (by omega) (fun u1 m0 ad1 S1 I1 ln1 z1 g1 D1 v1 v2 v3 v4 v5 v6 v7 v8 v9 v10 v11 v12 v13 => ?_)
    have e4 : ad 4 = ad1 4 := ((v10 4 (by omega)).1).symm
    have e7 : ad 7 = ad1 7 := ((v10 7 (by omega)).1).symm
    have e8 : ad 8 = ad1 8 := ((v10 8 (by omega)).1).symm
    rw [e4, e7, e8]
    refine ⟨v1.obN (by decide), ?_⟩
    refine q_N_half v1 v2 v3 v4 hs ho v5 v6 (f := cof (o (i + 1)) true (D n)) (v8.1 _ (pa true).1).1 (v8.1 _ (pb true).1).1 (by rw [(v8.1 _ (pa true).1).2.1]; exact qa true) (by rw [(v8.1 _ (pb true).1).2.1]; exact qb true) (fy true) (fb true) (by omega) (fun u2 m1 ad2 S2 I2 ln2 z2 g2 D2 w1 w2 w3 w4 w5 w6 w7 w8 w9 w10 w11 w12 w13 => ?_)
    have e4' : ad1 4 = ad2 4 := ((w10 4 (by omega)).1).symm
    have e7' : ad1 7 = ad2 7 := ((w10 7 (by omega)).1).symm
    have e8' : ad1 8 = ad2 8 := ((w10 8 (by omega)).1).symm
    rw [e4', e7', e8']
    obtain ⟨x1, x2⟩ := v8.tr w8
    have gn2 : g2 n = g n := (x1 n (Or.inr hg)).2.2
    have Dn2 : D2 n = D n := (x1 n (Or.inr hg)).2.1
    have hg2 : g2 n ≠ 0 := by rw [gn2]; exact hg
    have hk2 : nk (g2 n) = o i := by rw [gn2]; exact hk
    have hd2 : dep (D2 n) (o (i + 1)) := by rw [Dn2]; exact hd
    have pte : ∀ (b : Bool) (c : Nat), IN g c → pt g2 (o (i + 1)) b c = pt g (o (i + 1)) b c := fun b c hcc => by
      unfold pt kd
      rw [(x1 c hcc).2.2]
    have hm : ∀ b : Bool, MD g2 (o i) (pt g2 (o (i + 1)) b (n0 (g2 n))) (pt g2 (o (i + 1)) b (n1 (g2 n))) (if b then m1 else m0) := fun b => by
      rw [gn2, pte b _ i0, pte b _ i1]
      cases b
      · exact MD.ex w8 v7 (v8.1 _ (pa false).1).1
      · exact w7
    have hL2 : ∀ m : Nat, g2 m ≠ 0 → ¬ (m = (if false then m1 else m0) ∨ m = (if true then m1 else m0)) → LED g2 rt m := fun m hm2 hno => by
      rcases x2 m hm2 with q | q | q
      · rcases hL m q with ⟨m', q1, q2⟩ | q1
        · exact Or.inl ⟨m', by rw [(x1 m' (Or.inr q1)).2.2]; exact q1, by rw [(x1 m' (Or.inr q1)).2.2]; exact q2⟩
        · exact Or.inr q1
      · exact absurd (Or.inl q) hno
      · exact absurd (Or.inr q) hno
    obtain ⟨t1, t2, t3, t4, t5, t6, t7⟩ := turn_ok (rt := rt) hs ho w5 hg2 hk2 hd2 (mb := fun b => if b then m1 else m0) hm hL2
    have m0e : (if false then m1 else m0) = m0 := rfl
    have m1e : (if true then m1 else m0) = m1 := rfl
    rw [m0e, m1e] at t1 t2 t4 t7
    have u0 := t3 false
    have u1' := t3 true
    rw [m0e, Dn2] at u0
    rw [m1e, Dn2] at u1'
    have hm01 : m0 ≠ m1 := fun q => hd (by rw [← u0.2, ← u1'.2, q])
    have lm0 := w3.inlt w2 u0.1
    have lm1 := w3.inlt w2 u1'.1
    rw [gn2] at t5 t6 t7
    -- the walk goes on
    unfold p_N_turn_J183
    refine ⟨_, w1.nia w2 8 n8 lm0, ?_⟩
    rw [nI_1]
    obtain ⟨u3, s3, h3⟩ := w1.nis w2 8 n8 lm0 (I2 8 m0 + 1)
    have a3 := h3.nia w2 8 n8 lm1
    rw [up_eq, up_ne _ _ (Ne.symm hm01)] at a3
    refine ⟨u3, s3, _, a3, ?_⟩
    rw [nI_1]
    obtain ⟨u4, s4, h4⟩ := h3.nis w2 8 n8 lm1 (I2 8 m1 + 1)
    rw [up_eq, bx_uu] at h4
    refine ⟨u4, s4, ?_⟩
    rw [nI_cd (by omega) (by omega)]
    refine q_N_relist (g := g2) (T := T) h4 w2 (w3.i8 _) hn hg2 hy10 (by omega) (by omega) hm01 (fun u5 ad5 I5 ln5 z5 y1 y2 y3 y4 y5 y6 y7 y8 => ?_)
    have e4'' : ad2 4 = ad5 4 := ((y6 4 (by omega)).1).symm
    have e8'' : ad2 8 = ad5 8 := ((y6 8 (by omega)).1).symm
    rw [e4'', e8'']
    rw [up_eq] at y4
    have hsz : n0 (g n) ≠ n1 (g n) := hc.ne hg
    have gup : ∀ c : Nat, c ≠ n → va_up g2 n (cd (o (i + 1)) m0 m1) c = g2 c := fun c q => up_ne _ _ q
    have cg3 : ∀ c : Nat, IN g c → c ≠ n → cgc (va_up g2 n (cd (o (i + 1)) m0 m1)) c = cgc g c := fun c hcc q => by
      unfold cgc
      rw [gup c q, (x1 c hcc).2.2]
    have RC3 : RC e (va_up g2 n (cd (o (i + 1)) m0 m1)) rt (fun c => r1 (g n) c) (I5 8) := fun c hcl => by
      rw [y4]
      have a := w4 c hcl
      have b := rf_up g2 (w5.lt hg2) (cd (o (i + 1)) m0 m1) c
      rw [gn2, r1_cd hm01 (by omega) (by omega)] at b
      dsimp only at a ⊢
      by_cases q1 : c = m1
      · subst q1
        rw [up_eq]
        rw [if_neg hm01, if_pos rfl] at b
        omega
      · rw [up_ne _ _ q1]
        by_cases q0 : c = m0
        · subst q0
          rw [up_eq]
          rw [if_pos rfl, if_neg (Ne.symm q1)] at b
          omega
        · rw [up_ne _ _ q0]
          rw [if_neg (Ne.symm q0), if_neg (Ne.symm q1)] at b
          omega
    have r1z : r1 (g n) (n0 (g n)) = 1 := by
      unfold r1
      rw [if_neg hg, if_pos rfl, if_neg (Ne.symm hsz)]
    have r1o : r1 (g n) (n1 (g n)) = 1 := by
      unfold r1
      rw [if_neg hg, if_neg hsz, if_pos rfl]
    have inz : ∀ c : Nat, IN g c → IN (va_up g2 n (cd (o (i + 1)) m0 m1)) c := fun c hcc => in_up (cd_ne hm01) (x1 c hcc).1
    have nT : ∀ c : Nat, ¬ dep (D c) (o i) → ¬ T c := fun c q w => q (by
      obtain ⟨a1, a2, _⟩ := ht.1 c w
      rw [← a2]; exact hc.dp a1)
    have nTz : ¬ T (n0 (g n)) := nT _ (by rw [c0]; exact not_dep_cof _ _ _)
    have nTo : ¬ T (n1 (g n)) := nT _ (by rw [c1]; exact not_dep_cof _ _ _)
    rw [← cg3 _ i0 (Ne.symm t5)]
    refine q_N_drop (Q := p_N_turn_J281 Q (ad5 4) (ad5 8) (nI (n1 (g n))) (nI (cgc g (n1 (g n))))) y1 y2 y3 RC3 t4 (inz _ i0) r1z (fun c => r1_le _ _) (fun q => nTz q.1) (fun u6 S6 I6 a1 a2 a3 a4 a5 a6 a7 a8 _ => ?_)
    unfold p_N_turn_J281
    have g4o : dl (va_up g2 n (cd (o (i + 1)) m0 m1)) rt (n0 (g n)) (n1 (g n)) = g2 (n1 (g n)) := by rw [dl_ne (Ne.symm hsz), gup _ (Ne.symm t6)]
    have cg4 : cgc (dl (va_up g2 n (cd (o (i + 1)) m0 m1)) rt (n0 (g n))) (n1 (g n)) = cgc g (n1 (g n)) := by
      unfold cgc
      rw [g4o, (x1 _ i1).2.2]
    have in4 : IN (dl (va_up g2 n (cd (o (i + 1)) m0 m1)) rt (n0 (g n))) (n1 (g n)) := by
      rcases (x1 _ i1).1 with q | q
      · exact Or.inl q
      · exact Or.inr (by rw [g4o]; exact q)
    rw [← cg4]
    refine q_N_drop (xt := va_up (fun c => r1 (g n) c) (n0 (g n)) 0) a1 a2 a3 a4 (dl_can t4 _) in4 (by rw [up_ne _ _ (Ne.symm hsz)]; exact r1o) (fun c => ?_) (fun q => nTo q.1) (fun u7 S7 I7 b1 b2 b3 b4 b5 b6 b7 b8 _ => ?_)
    · by_cases q : c = n0 (g n)
      · subst q; rw [up_eq]; omega
      · rw [up_ne _ _ q]; exact r1_le _ _
    · have et : dl (dl (va_up g2 n (cd (o (i + 1)) m0 m1)) rt (n0 (g n))) rt (n1 (g n)) = turnG g2 rt n (o (i + 1)) m0 m1 := by
        unfold turnG
        rw [gn2]
      have gT : ∀ c : Nat, turnG g2 rt n (o (i + 1)) m0 m1 c ≠ 0 → turnG g2 rt n (o (i + 1)) m0 m1 c = va_up g2 n (cd (o (i + 1)) m0 m1) c := fun c q => by
        rw [← et] at q ⊢
        have q2 := dl_live q
        rw [q2] at q
        rw [q2, dl_live q]
      have gTn : ∀ c : Nat, c ≠ n0 (g n) → c ≠ n1 (g n) → turnG g2 rt n (o (i + 1)) m0 m1 c = va_up g2 n (cd (o (i + 1)) m0 m1) c := fun c q1 q2 => by
        rw [← et, dl_ne q2, dl_ne q1]
      have xz : va_up (va_up (fun c => r1 (g n) c) (n0 (g n)) 0) (n1 (g n)) 0 = fun _ => 0 := by
        funext c
        by_cases q1 : c = n1 (g n)
        · subst q1; rw [up_eq]
        · rw [up_ne _ _ q1]
          by_cases q0 : c = n0 (g n)
          · subst q0; rw [up_eq]
          · rw [up_ne _ _ q0]
            show r1 (g n) c = 0
            unfold r1
            rw [if_neg hg, if_neg (Ne.symm q0), if_neg (Ne.symm q1)]
      rw [xz] at b4
      rw [et] at b3 b4
      refine hQ u7 ad5 S7 I7 ln5 z5 _ D2 b1 b2 b3 b4 t1 ⟨fun c hcT => ?_, fun c hcl hcT hck => ?_⟩ t2 (fun p hp hin => ⟨?_, (x1 _ hin).2.1⟩) ?_ ((v10.tr w10).tr y6) (by omega) (by omega) (fun c hcT hcn => ?_)
      · obtain ⟨q1, q2, q3⟩ := ht.1 c hcT.1
        have qz : c ≠ n0 (g n) := fun q => nTz (q ▸ hcT.1)
        have qo : c ≠ n1 (g n) := fun q => nTo (q ▸ hcT.1)
        rw [gTn c qz qo, gup c hcT.2, (x1 c (Or.inr q1)).2.2, (x1 c (Or.inr q1)).2.1]
        exact ⟨q1, q2, q3⟩
      · have q := gT c hcl
        rw [q] at hck hcl
        by_cases cn : c = n
        · subst cn
          rw [up_eq, nk_cd (by omega) (by omega)] at hck
          exact absurd hck (Ne.symm hxy)
        · rw [gup c cn] at hck hcl
          exact w6.2 c hcl (fun w => hcT ⟨w, cn⟩) hck
      · rw [← et]
        exact dl_root hp (dl_root hp (inz _ hin))
      · exact ((((v9.tr w9).tr ⟨fun j hj => up_ne _ _ (by omega), fun _ _ _ _ => rfl, rfl⟩).tr y5).tr a5).tr b5
      · have q1 := (ht.1 c hcT)
        have g2c : va_up g2 n (cd (o (i + 1)) m0 m1) c ≠ 0 := by rw [gup c hcn, (x1 c (Or.inr q1.1)).2.2]; exact q1.1
        have qz : c ≠ n0 (g n) := fun q => nTz (q ▸ hcT)
        rw [b8 c ⟨hcT, hcn⟩ (by rw [dl_ne qz]; exact g2c), a8 c ⟨hcT, hcn⟩ g2c, y8 c hcn]
        show I2 11 c = I 11 c
        rw [w13 c hcT, v13 c hcT]
  unfold p_N_turn
  refine ⟨_, h.fN (by decide) rfl, _, h.fN (by decide) rfl, _, r7, nm_e ?_⟩
  rw [nI_n0 w32]
  refine ⟨_, r7, nm_e ?_⟩
  rw [nI_n1]
  refine ⟨_, r0, _, r1', ?_⟩
  rw [nI_nk k0, nI_nk k1, nI_n0 k0, nI_n0 k1, nI_n1, nI_n1, nk_cg, nk_cg]
  have kb0 := kb _ i0
  have kb1 := kb _ i1
  have some_y : kd g (n0 (g n)) ≠ o (i + 1) → kd g (n1 (g n)) = o (i + 1) := fun q => Classical.byContradiction (fun q2 => by
    have d0 := (f2 _ (Or.inl rfl)).1 q
    have d1 := (f2 _ (Or.inr rfl)).1 q2
    have e := ite_cof (o i) (D n)
    rw [← c0, ← c1] at e
    rw [← e] at hd
    rcases ite_dep hd with w | w | w
    · exact hxy w.symm
    · exact d0 w
    · exact d1 w)
  have live_of : ∀ c : Nat, IN g c → kd g c = o (i + 1) → cgc g c = g c := fun c hcc q => cg_lt (hc.ge (kd_live hc hy10 hcc q).1)
  have ptT : ∀ c : Nat, IN g c → kd g c = o (i + 1) → pt g (o (i + 1)) false c = n0 (cgc g c) ∧ pt g (o (i + 1)) true c = n1 (cgc g c) := fun c hcc q => by
    rw [live_of c hcc q]
    exact ⟨by unfold pt; rw [if_pos q]; rfl, by unfold pt; rw [if_pos q]; rfl⟩
  have ptF : ∀ (c : Nat) (b : Bool), kd g c ≠ o (i + 1) → pt g (o (i + 1)) b c = c := fun c b q => if_neg q
  refine eqn (by omega) (by omega) (fun q0 => ?_) (fun q0 => ?_)
  · refine eqn (by omega) (by omega) (fun q1 => ?_) (fun q1 => ?_)
    · rw [(ptT _ i0 q0).1, (ptT _ i0 q0).2, (ptT _ i1 q1).1, (ptT _ i1 q1).2] at main
      exact ⟨h.obN (by decide), main⟩
    · rw [(ptT _ i0 q0).1, (ptT _ i0 q0).2, ptF _ false q1, ptF _ true q1] at main
      exact ⟨h.obN (by decide), main⟩
  · rw [ptF _ false q0, ptF _ true q0, (ptT _ i1 (some_y q0)).1, (ptT _ i1 (some_y q0)).2] at main
    exact ⟨h.obN (by decide), main⟩
end TRN2
