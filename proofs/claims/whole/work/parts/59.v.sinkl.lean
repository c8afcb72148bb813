/-! sinking by trial: all nodes of a step -/
section SKL
variable {ad : Nat → Nat} {ln : Nat → Nat} {L : Nat → Nat → Int64} {E : (Nat → Prop) × (Nat → Option PE)} {z R : Nat × Nat} {e f0 : Nat} {g rt : Nat → Nat} {o r : Nat → Nat} {x pl c : Nat} {F : Nat → Nat → Bool}
theorem TM.ing {gt S : Nat → Nat} {I : Nat → Nat → Nat} (tm : TM e f0 g gt S I ln) {m : Nat} (h : IN g m) : IN gt m := by
  rcases h with q | q
  · exact Or.inl q
  · have w := tm.2.2.1 m q
    exact Or.inr (by rw [tm.2.2.2.2.2.2.2.1 m w.2.1]; exact q)
theorem q_T_sink_L {S0 : Nat → Nat} {I0 : Nat → Nat → Nat} (sh0 : SH R S0 ln z e) (ts : TSH ln e) (ho : PO o) (hpl : pl < 10) (hxo : o pl = x) (hro : ∀ j : Nat, j < pl → o j = r j) (hr : PR9 r x) (hplc : pl ≤ c) (hc9 : c < 9) {D0 : Nat → Fn} {bf N0 A0 TK : Nat} (hTK : TK < 16384)
    {X : Int32 → Int32 → PS → Prop} (hX : ∀ (u' : PS) (S' : Nat → Nat) (I' : Nat → Nat → Nat) (gt' gg' : Nat → Nat) (D' : Nat → Fn) (gone turned N A : Nat), VC 69 ad S' I' ln L E z u' → MSI e f0 g rt o r x pl c gt' gg' D' (fun m => m ∈ []) (fun _ => 0) S' I' ln → (∀ m : Nat, gg' m ≠ 0 → LED gg' rt m) → (∀ p : Nat, p < 24 → IN gg' (rt p) ∧ D' (rt p) = fnOf (F p)) → (∀ m : Nat, IN g m → D' m = D0 m) → Cnt (fun m => gg' m ≠ 0) N → Cnt (fun m => gg' m ≠ 0 ∧ nk (gg' m) = x) A → N + gone = N0 + (S' 9 - bf) → A + turned = A0 + (S' 9 - bf) → bf ≤ S' 9 → FT S0 I0 S' I' → turned = TK → X (nI gone) (nI turned) u') :
    ∀ (l : List Nat) (n gone turned : Nat) (u : PS) (S : Nat → Nat) (I : Nat → Nat → Nat) (gt gg : Nat → Nat) (D : Nat → Fn) (N A : Nat), turned + l.length = TK → chn (I 27) n l → l.Nodup → VC 69 ad S I ln L E z u → MSI e f0 g rt o r x pl c gt gg D (fun m => m ∈ l) (fun _ => 0) S I ln → (∀ m : Nat, gg m ≠ 0 → LED gg rt m) → (∀ p : Nat, p < 24 → IN gg (rt p) ∧ D (rt p) = fnOf (F p)) → (∀ m : Nat, IN g m → D m = D0 m) → (∀ t : Nat, t ∈ l → mpl (I 29) gt t = c) → Cnt (fun m => gg m ≠ 0) N → Cnt (fun m => gg m ≠ 0 ∧ nk (gg m) = x) A → N + gone = N0 + (S 9 - bf) → A + turned = A0 + (S 9 - bf) → bf ≤ S 9 → FT S0 I0 S I → S 9 + 2 * l.length ≤ 2 ^ e → p_T_sinkBelow_L67 (ad 5) (nI x) (nI (r c)) (ad 7) (ad 24) (nI bf) X (l.length + 1) (nI gone) (nI turned) (nI n) u := by
  have hle := sh0.le
  have hx10 : x < 10 := by rw [← hxo]; exact ho.1 pl hpl
  have hy10 : r c < 10 := (hr.1 c hc9).1
  have hxy : x ≠ r c := fun q => (hr.1 c hc9).2 q.symm
  have hs := ins_sw r x hc9
  have hoc : PO (insO r c x) := insO_PO hr hx10 (by omega)
  have ex : insO r c x c = x := insO_at r c x
  have ey : insO r c x (c + 1) = r c := ins_s r x c
  intro l
  induction l with
  | nil =>
    intro n gone turned u S I gt gg D N A hlen hch _ a1 a2 a3 a4 a5 a6 a7 a8 a9 a10 a11 a12 a13
    rw [p_T_sinkBelow_L67]
    have : n = 0 := hch
    subst this
    exact ⟨fun _ => hX u S I gt gg D gone turned N A a1 a2 a3 a4 a5 a7 a8 a9 a10 a11 a12 (by rw [List.length_nil] at hlen; omega), fun w => absurd rfl w⟩
  | cons n0' l ih =>
    intro n gone turned u S I gt gg D N A hlen hch hnd h ms hL hrt hD0 hmp hN hA eN eA hbf hft hroom
    obtain ⟨rfl, hn0, hch2⟩ := hch
    have hd2 := List.nodup_cons.mp hnd
    rw [List.length_cons] at hlen hroom
    have sh : SH R S ln z e := sh0.s (hft.2.1 7 (by decide))
    obtain ⟨tm, hct, hcg, hT, m1, m2, m3, m4, m5, m6⟩ := id ms
    have tn : n ∈ n :: l := List.mem_cons_self
    obtain ⟨hg, hk, hd⟩ := hT.1 n tn
    obtain ⟨f1, f2⟩ := turn_facts hs hoc hcg hg hk
    rw [ex] at hk
    rw [ey] at hd f2
    have inT : ∀ q : Nat, IN gg q → IN gt q := fun q hq => by
      rcases hq with w | w
      · exact Or.inl w
      · exact Or.inr (m1 q w)
    have gn : gg n = gt n := m3 n hg (Or.inr hk)
    have i0 := hcg.i0 hg
    have i1 := hcg.i1 hg
    have c0 : D (n0 (gg n)) = cof x false (D n) := by rw [← hcg.c0 hg, hk]
    have c1 : D (n1 (gg n)) = cof x true (D n) := by rw [← hcg.c1 hg, hk]
    have fr : ∀ j : Nat, j < c → ¬ dep (D n) (r j) := fun j hj => by
      have := f1 j hj
      rw [ins_lt r x hj] at this
      exact this
    have lw0 : lowr x r c (D (n0 (gg n))) := by
      rw [c0]; exact ⟨not_dep_cof _ _ _, fun j hj q => fr j hj (cof_dep q)⟩
    have lw1 : lowr x r c (D (n1 (gg n))) := by
      rw [c1]; exact ⟨not_dep_cof _ _ _, fun j hj q => fr j hj (cof_dep q)⟩
    have gz : ∀ q : Nat, IN gg q → lowr x r c (D q) → cgc gt q = cgc gg q := fun q hq hl => by
      unfold cgc
      by_cases w : q < 2
      · rw [if_pos w, if_pos w]
      · rw [if_neg w, if_neg w, m3 q (hq.resolve_left w) (Or.inl hl.1)]
    obtain ⟨t7, t32, tl⟩ := tm.cg (inT n (Or.inr hg))
    have s9 : S 9 ≤ 2 ^ e := tm.2.2.2.1.2.2
    have f09 : f0 ≤ S 9 := tm.2.2.2.1.2.1
    have hn2 := hcg.ge hg
    have r7 := h.nia sh 7 n7 (j := n) (by omega)
    rw [t7, cg_lt hn2, ← gn] at r7
    rw [cg_lt hn2, ← gn] at t32
    obtain ⟨z7, z32, zl⟩ := tm.cg (inT _ i0)
    obtain ⟨o7, o32, ol⟩ := tm.cg (inT _ i1)
    rw [gz _ i0 lw0] at z7 z32
    rw [gz _ i1 lw1] at o7 o32
    have r0 := h.nia sh 7 n7 (j := n0 (gg n)) (by omega)
    rw [z7] at r0
    have r1' := h.nia sh 7 n7 (j := n1 (gg n)) (by omega)
    rw [o7] at r1'
    have main : p_T_leadOn (ad 5) (nI x) (nI (pt gg (r c) false (n0 (gg n)))) (nI (pt gg (r c) false (n1 (gg n)))) u (fun (u_22 : PS) => (x_ob u_22 (ad 5) 4 ∧ (p_T_leadOn (ad 5) (nI x) (nI (pt gg (r c) true (n0 (gg n)))) (nI (pt gg (r c) true (n1 (gg n)))) u_22 (fun (u_23 : PS) => (p_T_sinkBelow_J237 (p_T_sinkBelow_L67 (ad 5) (nI x) (nI (r c)) (ad 7) (ad 24) (nI bf) X (l.length + 1)) X (ad 5) (nI x) (nI (r c)) (ad 7) (ad 24) (nI bf) (nI gone) (nI turned) (nI n) (nI (n0 (gg n))) (nI (n1 (gg n))) (nI (cgc gg (n0 (gg n)))) (nI (cgc gg (n1 (gg n)))) u_23))))) := by
      have pa := fun b : Bool => (f2 _ (Or.inl rfl)).2 b
      have pb := fun b : Bool => (f2 _ (Or.inr rfl)).2 b
      have qa : ∀ b : Bool, D (pt gg (r c) b (n0 (gg n))) = cof x false (cof (r c) b (D n)) := fun b => by rw [(pa b).2, c0, cof_comm hxy.symm]
      have qb : ∀ b : Bool, D (pt gg (r c) b (n1 (gg n))) = cof x true (cof (r c) b (D n)) := fun b => by rw [(pb b).2, c1, cof_comm hxy.symm]
      have ff : ∀ (b : Bool) (j : Nat), j < c + 1 → ¬ dep (cof (r c) b (D n)) (r j) := fun b j hj q => by
        by_cases w : j = c
        · subst w; exact not_dep_cof _ _ _ q
        · exact fr j (by omega) (cof_dep q)
      refine q_T_leadOn h sh ts ho hpl hxo hro hr hplc hc9 ms (f := cof (r c) false (D n)) (pa false).1 (pb false).1 (qa false) (qb false) (ff false) (by omega) hN hA (fun u1 S1 I1 gt1 gg1 D1 m0 v1 v2 v3 v4 v5 v6 v7 v8 v9 => ?_)
      refine ⟨v1.obT (by decide), ?_⟩
      have sh1 : SH R S1 ln z e := sh.s (v6.2.1 7 (by decide))
      refine q_T_leadOn v1 sh1 ts ho hpl hxo hro hr hplc hc9 v2 (f := cof (r c) true (D n)) (v4.1 _ (pa true).1).1 (v4.1 _ (pb true).1).1 (by rw [(v4.1 _ (pa true).1).2.1]; exact qa true) (by rw [(v4.1 _ (pb true).1).2.1]; exact qb true) (ff true) (by omega) v8 v9 (fun u2 S2 I2 gt2 gg2 D2 m1' w1 w2 w3 w4 w5 w6 w7 w8 w9 => ?_)
      have sh2 : SH R S2 ln z e := sh1.s (w6.2.1 7 (by decide))
      obtain ⟨x1, x2⟩ := v4.tr w4
      have inT1 : ∀ q : Nat, IN gt q → IN gt1 q := fun q hq => by
        rcases hq with w | w
        · exact Or.inl w
        · exact Or.inr (by rw [(v5 q (Or.inr w)).2]; exact w)
      have y1 : ∀ q : Nat, IN gt q → D2 q = D q ∧ gt2 q = gt q := fun q hq => by
        have p := v5 q hq
        have p2 := w5 q (inT1 q hq)
        exact ⟨p2.1.trans p.1, p2.2.trans p.2⟩
      obtain ⟨tm2, hct2, hcg2, hT2, k1, k2, k3, k4, k5, k6⟩ := w2
      have gn2 : gg2 n = gg n := (x1 n (Or.inr hg)).2.2
      have Dn2 : D2 n = D n := (x1 n (Or.inr hg)).2.1
      have hg2 : gg2 n ≠ 0 := by rw [gn2]; exact hg
      have hk2 : nk (gg2 n) = insO r c x c := by rw [gn2, ex]; exact hk
      have hd2' : dep (D2 n) (insO r c x (c + 1)) := by rw [Dn2, ey]; exact hd
      have pte : ∀ (b : Bool) (q : Nat), IN gg q → pt gg2 (r c) b q = pt gg (r c) b q := fun b q hq => by
        unfold pt kd
        rw [(x1 q hq).2.2]
      have hm : ∀ b : Bool, MD gg2 (insO r c x c) (pt gg2 (insO r c x (c + 1)) b (n0 (gg2 n))) (pt gg2 (insO r c x (c + 1)) b (n1 (gg2 n))) (if b then m1' else m0) := fun b => by
        rw [gn2, ex, ey, pte b _ i0, pte b _ i1]
        cases b
        · exact MD.ex w4 v3 (v4.1 _ (pa false).1).1
        · exact w3
      have hL2 : ∀ m : Nat, gg2 m ≠ 0 → ¬ (m = (if false then m1' else m0) ∨ m = (if true then m1' else m0)) → LED gg2 rt m := fun m hm2 hno => by
        rcases x2 m hm2 with q | q | q
        · rcases hL m q with ⟨m', q1, q2⟩ | q1
          · exact Or.inl ⟨m', by rw [(x1 m' (Or.inr q1)).2.2]; exact q1, by rw [(x1 m' (Or.inr q1)).2.2]; exact q2⟩
          · exact Or.inr q1
        · exact absurd (Or.inl q) hno
        · exact absurd (Or.inr q) hno
      obtain ⟨t1, t2, t3, t4, t5, t6, t7'⟩ := turn_ok (rt := rt) hs hoc hcg2 hg2 hk2 hd2' (mb := fun b => if b then m1' else m0) hm hL2
      have m0e : (if false then m1' else m0) = m0 := rfl
      have m1e : (if true then m1' else m0) = m1' := rfl
      rw [m0e, m1e, ey] at t1 t2 t4 t7'
      have u0 := t3 false
      have u1' := t3 true
      rw [m0e, Dn2, ey] at u0
      rw [m1e, Dn2, ey] at u1'
      have hm01 : m0 ≠ m1' := fun q => hd (by rw [← u0.2, ← u1'.2, q])
      have lm0 := hcg2.inlt u0.1
      have lm1 := hcg2.inlt u1'.1
      rw [gn2] at t5 t6
      have hsz : n0 (gg n) ≠ n1 (gg n) := hcg.ne hg
      have gup : ∀ q : Nat, q ≠ n → va_up gg2 n (cd (r c) m0 m1') q = gg2 q := fun q w => up_ne _ _ w
      -- what is owed
      have hxt : ∀ q : Nat, IN gt2 q → lowr x r c (D2 q) → (if pt gg (r c) true (n0 (gg n)) = pt gg (r c) true (n1 (gg n)) then va_up (if pt gg (r c) false (n0 (gg n)) = pt gg (r c) false (n1 (gg n)) then va_up (fun _ => 0) (pt gg (r c) false (n0 (gg n))) ((fun _ => 0) (pt gg (r c) false (n0 (gg n))) + 1) else fun _ => 0) (pt gg (r c) true (n0 (gg n))) ((if pt gg (r c) false (n0 (gg n)) = pt gg (r c) false (n1 (gg n)) then va_up (fun _ => 0) (pt gg (r c) false (n0 (gg n))) ((fun _ => 0) (pt gg (r c) false (n0 (gg n))) + 1) else fun _ => 0) (pt gg (r c) true (n0 (gg n))) + 1) else (if pt gg (r c) false (n0 (gg n)) = pt gg (r c) false (n1 (gg n)) then va_up (fun _ => 0) (pt gg (r c) false (n0 (gg n))) ((fun _ => 0) (pt gg (r c) false (n0 (gg n))) + 1) else fun _ => 0)) q = r1 (cd (r c) m0 m1') q := fun q hq hlq => by
        have g0 : (if pt gg (r c) false (n0 (gg n)) = pt gg (r c) false (n1 (gg n)) then va_up (fun _ => 0) (pt gg (r c) false (n0 (gg n))) ((fun _ => 0) (pt gg (r c) false (n0 (gg n))) + 1) else fun _ => 0) q = if m0 = q then 1 else 0 := by
          rcases hm false with ⟨q1, q2⟩ | ⟨q1, q2⟩
          · rw [gn2, ey, pte false _ i0, pte false _ i1] at q1
            rw [gn2, ey, pte false _ i0] at q2
            rw [if_pos q1, show m0 = pt gg (r c) false (n0 (gg n)) from q2]
            by_cases w : q = pt gg (r c) false (n0 (gg n))
            · subst w; rw [up_eq, if_pos rfl]
            · rw [up_ne _ _ w, if_neg (Ne.symm w)]
          · rw [gn2, ey, pte false _ i0, pte false _ i1] at q1
            rw [if_neg q1, if_neg (fun w => by
              have q2' : gg2 m0 = cd (insO r c x c) _ _ := q2
              have dd := hcg2.dp (n := m0) (by rw [q2']; exact cd_ne (by rw [gn2, ey, pte false _ i0, pte false _ i1]; exact q1))
              rw [q2', nk_cd (hcg2.inlt (by rw [gn2, ey, pte false _ i0]; exact (x1 _ (pa false).1).1)) (hcg2.inlt (by rw [gn2, ey, pte false _ i1]; exact (x1 _ (pb false).1).1)), ex, w] at dd
              exact hlq.1 dd)]
        have g1 : ∀ v : Nat → Nat, (if pt gg (r c) true (n0 (gg n)) = pt gg (r c) true (n1 (gg n)) then va_up v (pt gg (r c) true (n0 (gg n))) (v (pt gg (r c) true (n0 (gg n))) + 1) else v) q = v q + if m1' = q then 1 else 0 := fun v => by
          rcases hm true with ⟨q1, q2⟩ | ⟨q1, q2⟩
          · rw [gn2, ey, pte true _ i0, pte true _ i1] at q1
            rw [gn2, ey, pte true _ i0] at q2
            rw [if_pos q1, show m1' = pt gg (r c) true (n0 (gg n)) from q2]
            by_cases w : q = pt gg (r c) true (n0 (gg n))
            · subst w; rw [up_eq, if_pos rfl]
            · rw [up_ne _ _ w, if_neg (Ne.symm w)]; rfl
          · rw [gn2, ey, pte true _ i0, pte true _ i1] at q1
            rw [if_neg q1, if_neg (fun w => by
              have q2' : gg2 m1' = cd (insO r c x c) _ _ := q2
              have dd := hcg2.dp (n := m1') (by rw [q2']; exact cd_ne (by rw [gn2, ey, pte true _ i0, pte true _ i1]; exact q1))
              rw [q2', nk_cd (hcg2.inlt (by rw [gn2, ey, pte true _ i0]; exact (x1 _ (pa true).1).1)) (hcg2.inlt (by rw [gn2, ey, pte true _ i1]; exact (x1 _ (pb true).1).1)), ex, w] at dd
              exact hlq.1 dd)]
            rfl
        rw [g1, g0, r1_cd hm01 lm0 lm1]
      have LD3 : ∀ q : Nat, IN gt2 q → lowr x r c (D2 q) → q < f0 ∧ I2 24 q = bs q + rf (va_up gg2 n (cd (r c) m0 m1')) q + rr rt q + r1 (gg n) q := fun q hq hlq => by
        obtain ⟨p1, p2⟩ := k4 q hq hlq
        refine ⟨p1, ?_⟩
        rw [hxt q hq hlq] at p2
        have b := rf_up gg2 (hcg2.lt hg2) (cd (r c) m0 m1') q
        rw [gn2] at b
        unfold bs
        omega
      have r1z : r1 (gg n) (n0 (gg n)) = 1 := by
        unfold r1
        rw [if_neg hg, if_pos rfl, if_neg (Ne.symm hsz)]
      have r1o : r1 (gg n) (n1 (gg n)) = 1 := by
        unfold r1
        rw [if_neg hg, if_neg hsz, if_pos rfl]
      have inz : ∀ q : Nat, IN gg q → IN (va_up gg2 n (cd (r c) m0 m1')) q := fun q hq => in_up (cd_ne hm01) (x1 q hq).1
      have in3 : ∀ q : Nat, IN (va_up gg2 n (cd (r c) m0 m1')) q → IN gt2 q := fun q hq => by
        rcases hq with w | w
        · exact Or.inl w
        · by_cases qn : q = n
          · rw [qn]; exact Or.inr (k1 n hg2)
          · rw [gup q qn] at w; exact Or.inr (k1 q w)
      have D2z : D2 (n0 (gg n)) = D (n0 (gg n)) := (x1 _ i0).2.1
      have D2o : D2 (n1 (gg n)) = D (n1 (gg n)) := (x1 _ i1).2.1
      have cw : ∀ q : Nat, IN gg q → q ≠ n → q < 2 ∨ cgc gg q = va_up gg2 n (cd (r c) m0 m1') q := fun q hq hqn => by
        by_cases w : q < 2
        · exact Or.inl w
        · exact Or.inr (by rw [gup q hqn, (x1 q hq).2.2, cg_lt (by omega)])
      have s29 : S2 9 ≤ 2 ^ e := tm2.2.2.2.1.2.2
      have f029 : f0 ≤ S2 9 := tm2.2.2.2.1.2.1
      have hN3 : Cnt (fun m => va_up gg2 n (cd (r c) m0 m1') m ≠ 0) (N + (S1 9 - S 9) + (S2 9 - S1 9)) := w8.congr (fun m => by
        by_cases q : m = n
        · subst q; rw [up_eq]; exact ⟨fun _ => cd_ne hm01, fun _ => hg2⟩
        · rw [gup m q])
      have hA3 := w9.sub n (P := fun m => va_up gg2 n (cd (r c) m0 m1') m ≠ 0 ∧ nk (va_up gg2 n (cd (r c) m0 m1') m) = x) ⟨hg2, by rw [gn2]; exact hk⟩ (fun m => by
        by_cases q : m = n
        · subst q; rw [up_eq, nk_cd lm0 lm1]; exact ⟨fun w => absurd w.2.symm hxy, fun w => absurd rfl w.2⟩
        · rw [gup m q]; exact ⟨fun w => ⟨w, q⟩, fun w => w.1⟩)
      -- the walk goes on
      unfold p_T_sinkBelow_J237
      refine q_T_drop (f0 := f0) (rt := rt) (gt := gt2) (gg := va_up gg2 n (cd (r c) m0 m1')) (D := D2) (xt := fun q => r1 (gg n) q) (C := fun v => p_T_sinkBelow_J286 (p_T_sinkBelow_L67 (ad 5) (nI x) (nI (r c)) (ad 7) (ad 24) (nI bf) X (l.length + 1)) X (ad 5) (nI x) (nI (r c)) (ad 7) (ad 24) (nI bf) v (nI turned) (nI n) (nI (n1 (gg n))) (nI (cgc gg (n1 (gg n))))) w1 sh2 ts (by omega) t4 in3 LD3 (inz _ i0) (by rw [D2z]; exact lw0) r1z (fun q => r1_le _ _) (cw _ i0 (Ne.symm t5)) z32 hN3 hA3.2 (fun u3 lead3 gone3 N3 b1 b2 b3 b4 b5 => ?_)
      have g4o : dl (va_up gg2 n (cd (r c) m0 m1')) rt (n0 (gg n)) (n1 (gg n)) = gg2 (n1 (gg n)) := by rw [dl_ne (Ne.symm hsz), gup _ (Ne.symm t6)]
      have in4 : IN (dl (va_up gg2 n (cd (r c) m0 m1')) rt (n0 (gg n))) (n1 (gg n)) := by
        rcases (x1 _ i1).1 with q | q
        · exact Or.inl q
        · exact Or.inr (by rw [g4o]; exact q)
      have cw4 : n1 (gg n) < 2 ∨ cgc gg (n1 (gg n)) = dl (va_up gg2 n (cd (r c) m0 m1')) rt (n0 (gg n)) (n1 (gg n)) := by
        by_cases w : n1 (gg n) < 2
        · exact Or.inl w
        · exact Or.inr (by rw [g4o, (x1 _ i1).2.2, cg_lt (by omega)])
      have in4s : ∀ q : Nat, IN (dl (va_up gg2 n (cd (r c) m0 m1')) rt (n0 (gg n))) q → IN gt2 q := fun q hq => in3 q (by
        rcases hq with w | w
        · exact Or.inl w
        · exact Or.inr (by rw [dl_live w] at w; exact w))
      have I24 : va_up I2 24 lead3 24 = lead3 := up_eq _ _ _
      unfold p_T_sinkBelow_J286
      refine q_T_drop (f0 := f0) (rt := rt) (gt := gt2) (D := D2) (xt := va_up (fun q => r1 (gg n) q) (n0 (gg n)) 0) (C := fun v => p_T_sinkBelow_J335 (p_T_sinkBelow_L67 (ad 5) (nI x) (nI (r c)) (ad 7) (ad 24) (nI bf) X (l.length + 1)) X (ad 5) (nI x) (nI (r c)) (ad 7) (ad 24) (nI bf) v (nI turned) (nI n)) b1 sh2 ts (by omega) (dl_can t4 _) in4s (fun q hq hlq => by rw [I24]; exact b2 q hq hlq) in4 (by rw [D2o]; exact lw1) (by rw [up_ne _ _ (Ne.symm hsz)]; exact r1o) (fun q => by
        by_cases w : q = n0 (gg n)
        · subst w; rw [up_eq]; omega
        · rw [up_ne _ _ w]; exact r1_le _ _) cw4 o32 b3 b4 (fun u4 lead4 gone4 N4 d1 d2 d3 d4 d5 => ?_)
      rw [bx_uu] at d1
      have et : dl (dl (va_up gg2 n (cd (r c) m0 m1')) rt (n0 (gg n))) rt (n1 (gg n)) = turnG gg2 rt n (r c) m0 m1' := by
        unfold turnG
        rw [gn2]
      have gT : ∀ q : Nat, turnG gg2 rt n (r c) m0 m1' q ≠ 0 → turnG gg2 rt n (r c) m0 m1' q = va_up gg2 n (cd (r c) m0 m1') q := fun q w => by
        rw [← et] at w ⊢
        have q2 := dl_live w
        rw [q2] at w
        rw [q2, dl_live w]
      have gTn : ∀ q : Nat, q ≠ n0 (gg n) → q ≠ n1 (gg n) → turnG gg2 rt n (r c) m0 m1' q = va_up gg2 n (cd (r c) m0 m1') q := fun q q1 q2 => by
        rw [← et, dl_ne q2, dl_ne q1]
      have xz : va_up (va_up (fun q => r1 (gg n) q) (n0 (gg n)) 0) (n1 (gg n)) 0 = fun _ => 0 := by
        funext q
        by_cases q1 : q = n1 (gg n)
        · subst q1; rw [up_eq]
        · rw [up_ne _ _ q1]
          by_cases q0 : q = n0 (gg n)
          · subst q0; rw [up_eq]
          · rw [up_ne _ _ q0]
            show r1 (gg n) q = 0
            unfold r1
            rw [if_neg hg, if_neg (Ne.symm q0), if_neg (Ne.symm q1)]
      rw [xz, et] at d2
      rw [et] at d3 d4
      -- x-nodes are not among the two
      have nxz : ∀ q : Nat, dep (D2 q) x → q ≠ n0 (gg n) ∧ q ≠ n1 (gg n) := fun q hq => ⟨fun w => lw0.1 (by rw [← D2z, ← w]; exact hq), fun w => lw1.1 (by rw [← D2o, ← w]; exact hq)⟩
      unfold p_T_sinkBelow_J335
      refine nm_e ?_
      rw [nI_1]
      have I27e : va_up I2 24 lead4 27 = I2 27 := up_ne _ _ (by decide)
      have I29e : va_up I2 24 lead4 29 = I2 29 := up_ne _ _ (by decide)
      have I28e : va_up I2 24 lead4 28 = I2 28 := up_ne _ _ (by decide)
      have ft2 : FT S I S2 I2 := v6.tr w6
      have r27 := d1.tia ts hle 27 t27 (j := n) (by omega)
      rw [I27e, ft2.2.2.1 n tl] at r27
      refine ⟨_, d1.fT (by decide) rfl, _, r27, ?_⟩
      have e29 : I2 29 = I 29 := ft2.1 29 (by decide) (by decide) (by decide) (by decide) (by decide) (by decide)
      have mpe : ∀ q : Nat, gt q ≠ 0 → mpl (I2 29) gt2 q = mpl (I 29) gt q := fun q hq => by
        unfold mpl kd
        rw [e29, (y1 q (Or.inr hq)).2, (y1 _ (hct.i0 hq)).2, (y1 _ (hct.i1 hq)).2]
      refine ih (I 27 n) gone4 (turned + 1) u4 S2 (va_up I2 24 lead4) gt2 (turnG gg2 rt n (r c) m0 m1') D2 N4 (A + (S1 9 - S 9) + (S2 9 - S1 9) - 1) (by omega) ?_ hd2.2 d1 ?_ t2 (fun p hp => ?_) (fun m hm => ?_) (fun t tt => ?_) d3 d4 ?_ ?_ ?_ ?_ ?_
      · rw [I27e]
        refine chn_congr l _ (fun q hq => ?_) hch2
        have hgq := (hT.1 q (List.mem_cons_of_mem _ hq)).1
        exact ft2.2.2.1 q (tm.cg (Or.inr (m1 q hgq))).2.2
      · refine ⟨tm2.i24 (fun i hi => up_ne _ _ (by omega)), hct2, t1, ⟨fun t tt => ?_, fun m hm hmT hmk => ?_⟩, fun m hm => ?_, fun m hm hmk hmj => ?_, fun m hm hor => ?_, fun q hq hlq => ?_, by rw [I29e]; exact k5, fun i i1' i2' => ?_⟩
        · have hne : t ≠ n := fun w => hd2.1 (w ▸ tt)
          obtain ⟨q1, q2, q3⟩ := hT2.1 t (List.mem_cons_of_mem _ tt)
          have q4 := nxz t (by rw [ex] at q2; rw [← q2]; exact hcg2.dp q1)
          rw [gTn t q4.1 q4.2, gup t hne]
          exact ⟨q1, q2, q3⟩
        · have q := gT m hm
          rw [q] at hmk hm
          by_cases cn : m = n
          · subst cn
            rw [up_eq, nk_cd lm0 lm1, ex] at hmk
            exact absurd hmk.symm hxy
          · rw [gup m cn] at hmk hm
            refine hT2.2 m hm (fun w => ?_) hmk
            rcases List.mem_cons.mp w with w | w
            · exact cn w
            · exact hmT w
        · have q := gT m hm
          rw [q] at hm
          by_cases cn : m = n
          · rw [cn]; exact k1 n hg2
          · rw [gup m cn] at hm; exact k1 m hm
        · have cn : m ≠ n := fun w => by
            subst w
            have := hmj c (by omega)
            rw [Dn2] at this
            exact this hd
          have dx : dep (D2 m) x := by rw [← hmk]; exact hct2.dp hm
          rw [gTn m (nxz m dx).1 (nxz m dx).2, gup m cn]
          exact k2 m hm hmk hmj
        · have q := gT m hm
          rw [q] at hm hor ⊢
          by_cases cn : m = n
          · subst cn
            exfalso
            rcases hor with w | w
            · rw [Dn2] at w
              exact w (by rw [← hk]; exact hcg.dp hg)
            · rw [up_eq, nk_cd lm0 lm1] at w
              exact hxy w.symm
          · rw [gup m cn] at hm hor ⊢
            exact k3 m hm hor
        · obtain ⟨p1, p2⟩ := d2 q hq hlq
          refine ⟨p1, ?_⟩
          rw [up_eq]
          exact p2
        · obtain ⟨li, l1, l2, l3⟩ := k6 i i1' i2'
          rw [I27e, I28e, I29e]
          refine ⟨li, l1, l2, fun m => ?_⟩
          rw [l3 m]
          by_cases cn : m = n
          · subst cn
            constructor
            · rintro ⟨_, _, q3⟩
              rw [mpe m (m1 m hg), hmp m tn] at q3
              omega
            · rintro ⟨q1, q2, _⟩
              rw [gT m q1, up_eq, nk_cd lm0 lm1] at q2
              exact absurd q2.symm hxy
          · constructor
            · rintro ⟨q1, q2, q3⟩
              have q4 := nxz m (by rw [← q2]; exact hcg2.dp q1)
              rw [gTn m q4.1 q4.2, gup m cn]
              exact ⟨q1, q2, q3⟩
            · rintro ⟨q1, q2, q3⟩
              have q4 := gT m q1
              rw [q4, gup m cn] at q1 q2
              exact ⟨q1, q2, q3⟩
      · have q := hrt p hp
        refine ⟨?_, by rw [(x1 _ q.1).2.1]; exact q.2⟩
        rw [← et]
        exact dl_root hp (dl_root hp (inz _ q.1))
      · rw [(y1 m (tm.ing hm)).1]; exact hD0 m hm
      · rw [I29e, mpe t (m1 t (hT.1 t (List.mem_cons_of_mem _ tt)).1)]
        exact hmp t (List.mem_cons_of_mem _ tt)
      · have a1 := v6.2.2.2
        have a2 := w6.2.2.2
        omega
      · have a1 := v6.2.2.2
        have a2 := w6.2.2.2
        have a3 := hA3.1
        omega
      · have a1 := v6.2.2.2
        have a2 := w6.2.2.2
        omega
      · refine (hft.tr ft2).tr ⟨fun i _ _ _ q4 _ _ => up_ne _ _ q4, fun _ _ => rfl, fun _ _ => by rw [I27e], Nat.le_refl _⟩
      · omega
    rw [p_T_sinkBelow_L67, List.length_cons]
    refine ⟨fun w => absurd ((nI_0I (by omega)).mp w) hn0, fun _ => pk_le 16384 turned (fun w => absurd w (by omega)) (fun _ => ?_)⟩
    refine ⟨_, r7, nm_e ?_⟩
    rw [nI_n0 t32]
    refine ⟨_, r7, nm_e ?_⟩
    rw [nI_n1]
    refine ⟨_, r0, _, r1', ?_⟩
    rw [nI_nk z32, nI_nk o32, nI_n0 z32, nI_n0 o32, nI_n1, nI_n1, nk_cg, nk_cg]
    have kb0 := kd_lt hcg i0
    have kb1 := kd_lt hcg i1
    have some_y : kd gg (n0 (gg n)) ≠ r c → kd gg (n1 (gg n)) = r c := fun q => Classical.byContradiction (fun q2 => by
      have d0 := (f2 _ (Or.inl rfl)).1 q
      have d1 := (f2 _ (Or.inr rfl)).1 q2
      have e := ite_cof x (D n)
      rw [← c0, ← c1] at e
      rw [← e] at hd
      rcases ite_dep hd with w | w | w
      · exact hxy w.symm
      · exact d0 w
      · exact d1 w)
    have live_of : ∀ q : Nat, IN gg q → kd gg q = r c → cgc gg q = gg q := fun q hq w => cg_lt (hcg.ge (kd_live hcg hy10 hq w).1)
    have ptT : ∀ q : Nat, IN gg q → kd gg q = r c → pt gg (r c) false q = n0 (cgc gg q) ∧ pt gg (r c) true q = n1 (cgc gg q) := fun q hq w => by
      rw [live_of q hq w]
      exact ⟨by unfold pt; rw [if_pos w]; rfl, by unfold pt; rw [if_pos w]; rfl⟩
    have ptF : ∀ (q : Nat) (b : Bool), kd gg q ≠ r c → pt gg (r c) b q = q := fun q b w => if_neg w
    refine eqn (by omega) (by omega) (fun q0 => ?_) (fun q0 => ?_)
    · refine eqn (by omega) (by omega) (fun q1 => ?_) (fun q1 => ?_)
      · rw [(ptT _ i0 q0).1, (ptT _ i0 q0).2, (ptT _ i1 q1).1, (ptT _ i1 q1).2] at main
        exact ⟨h.obT (by decide), main⟩
      · rw [(ptT _ i0 q0).1, (ptT _ i0 q0).2, ptF _ false q1, ptF _ true q1] at main
        exact ⟨h.obT (by decide), main⟩
    · rw [ptF _ false q0, ptF _ true q0, (ptT _ i1 (some_y q0)).1, (ptT _ i1 (some_y q0)).2] at main
      exact ⟨h.obT (by decide), main⟩
end SKL
