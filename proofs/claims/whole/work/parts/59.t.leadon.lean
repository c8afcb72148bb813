/-! sinking by trial: leadOn() -/
/-- in the middle of a step below r c: gt all nodes, gg those of the order that is tried, T those not turned yet, xt what is owed -/
def MSI (e f0 : Nat) (g rt o r : Nat → Nat) (x pl c : Nat) (gt gg : Nat → Nat) (D : Nat → Fn) (T : Nat → Prop) (xt : Nat → Nat) (S : Nat → Nat) (I : Nat → Nat → Nat) (ln : Nat → Nat) : Prop :=
  TM e f0 g gt S I ln ∧ CAN (Wo o) gt D ∧ CAN (W2 (insO r c x) (insO r (c + 1) x)) gg D ∧ TT (insO r c x) c gg D T ∧ (∀ n : Nat, gg n ≠ 0 → gt n ≠ 0) ∧ (∀ n : Nat, gt n ≠ 0 → nk (gt n) = x → (∀ j : Nat, j < c + 1 → ¬ dep (D n) (r j)) → gg n = gt n) ∧ (∀ n : Nat, gg n ≠ 0 → ¬ dep (D n) x ∨ nk (gg n) = x → gg n = gt n) ∧ (∀ n : Nat, IN gt n → lowr x r c (D n) → n < f0 ∧ I 24 n = (if n < 2 then alw n else 0) + rf gg n + rr rt n + xt n) ∧ PLC r pl (I 29) ∧ CHN x (c + 1) gt gg I
/-- what a trial leaves as it is -/
def FT (S : Nat → Nat) (I : Nat → Nat → Nat) (S' : Nat → Nat) (I' : Nat → Nat → Nat) : Prop := (∀ i : Nat, i ≠ 7 → i ≠ 11 → i ≠ 12 → i ≠ 24 → i ≠ 27 → i ≠ 28 → I' i = I i) ∧ (∀ s : Nat, s ≠ 9 → S' s = S s) ∧ (∀ n : Nat, n < S 9 → I' 27 n = I 27 n) ∧ S 9 ≤ S' 9
theorem FT.rf (S : Nat → Nat) (I : Nat → Nat → Nat) : FT S I S I := ⟨fun _ _ _ _ _ _ _ => rfl, fun _ _ => rfl, fun _ _ => rfl, Nat.le_refl _⟩
theorem FT.tr {S S' S'' : Nat → Nat} {I I' I'' : Nat → Nat → Nat} (h : FT S I S' I') (k : FT S' I' S'' I'') : FT S I S'' I'' := ⟨fun i a b c d f q => (k.1 i a b c d f q).trans (h.1 i a b c d f q), fun s hs => (k.2.1 s hs).trans (h.2.1 s hs), fun n hn => (k.2.2.1 n (by have := h.2.2.2; omega)).trans (h.2.2.1 n hn), Nat.le_trans h.2.2.2 k.2.2.2⟩
section LON
variable {ad S : Nat → Nat} {I : Nat → Nat → Nat} {ln : Nat → Nat} {L : Nat → Nat → Int64} {E : (Nat → Prop) × (Nat → Option PE)} {z R : Nat × Nat} {u : PS} {e f0 : Nat} {g gt gg rt xt : Nat → Nat} {D : Nat → Fn} {T : Nat → Prop} {o r : Nat → Nat} {x pl c : Nat}
theorem TM.i24 (tm : TM e f0 g gt S I ln) {J : Nat → Nat → Nat} (hJ : ∀ i : Nat, i < 24 → J i = I i) : TM e f0 g gt S J ln := by
  obtain ⟨d1, d2, d3, d4, d7, d8, d9, d10, d11, d12, d13, d14⟩ := tm
  unfold TM
  rw [hJ 7 (by omega), hJ 9 (by omega), hJ 10 (by omega), hJ 11 (by omega), hJ 12 (by omega)]
  exact ⟨d1, d2, d3, d4, d7, d8, d9, d10, d11, d12, d13.congr (fun _ => Iff.rfl) (fun k hk => ⟨hJ _ (by omega), rfl⟩) (fun _ _ => ⟨rfl, rfl⟩), d14⟩
theorem q_T_leadOn (h : VC 69 ad S I ln L E z u) (sh : SH R S ln z e) (ts : TSH ln e) (ho : PO o) (hpl : pl < 10) (hxo : o pl = x) (hro : ∀ j : Nat, j < pl → o j = r j) (hr : PR9 r x) (hplc : pl ≤ c) (hc9 : c < 9) (ms : MSI e f0 g rt o r x pl c gt gg D T xt S I ln) {a b : Nat} {f : Fn} (ha : IN gg a) (hb : IN gg b) (ea : D a = cof x false f) (eb : D b = cof x true f) (hf : ∀ j : Nat, j < c + 1 → ¬ dep f (r j)) (hr9 : S 9 < 2 ^ e) {N : Nat} (hN : Cnt (fun n => gg n ≠ 0) N) {A : Nat} (hA : Cnt (fun n => gg n ≠ 0 ∧ nk (gg n) = x) A)
    {Q : PS → Prop} (hQ : ∀ (u' : PS) (S' : Nat → Nat) (I' : Nat → Nat → Nat) (gt' gg' : Nat → Nat) (D' : Nat → Fn) (m : Nat), VC 69 ad S' I' ln L E z u' → MSI e f0 g rt o r x pl c gt' gg' D' T (if a = b then va_up xt a (xt a + 1) else xt) S' I' ln → MD gg' x a b m → EX gg D gg' D' m → (∀ n : Nat, IN gt n → D' n = D n ∧ gt' n = gt n) → FT S I S' I' → S' 9 ≤ S 9 + 1 → Cnt (fun n => gg' n ≠ 0) (N + (S' 9 - S 9)) → Cnt (fun n => gg' n ≠ 0 ∧ nk (gg' n) = x) (A + (S' 9 - S 9)) → Q u') : p_T_leadOn (ad 5) (nI x) (nI a) (nI b) u Q := by
  have hle := sh.le
  have hx10 : x < 10 := by rw [← hxo]; exact ho.1 pl hpl
  obtain ⟨tm, hct, hcg, hT, m1, m2, m3, m4, m5, m6⟩ := id ms
  have hs := ins_sw r x hc9
  have hoc : PO (insO r c x) := insO_PO hr hx10 (by omega)
  have ex : insO r c x c = x := insO_at r c x
  have ey : insO r c x (c + 1) = r c := ins_s r x c
  have inT : ∀ n : Nat, IN gg n → IN gt n := fun n hn => by
    rcases hn with q | q
    · exact Or.inl q
    · exact Or.inr (m1 n q)
  have hat := inT a ha
  have hbt := inT b hb
  have la : lowr x r (c + 1) (D a) := ⟨by rw [ea]; exact not_dep_cof _ _ _, fun j hj q => hf j hj (cof_dep (by rw [← ea]; exact q))⟩
  have lb : lowr x r (c + 1) (D b) := ⟨by rw [eb]; exact not_dep_cof _ _ _, fun j hj q => hf j hj (cof_dep (by rw [← eb]; exact q))⟩
  have la' : lowr x r c (D a) := ⟨la.1, fun j hj => la.2 j (by omega)⟩
  have lb' : lowr x r c (D b) := ⟨lb.1, fun j hj => lb.2 j (by omega)⟩
  obtain ⟨a1, a2⟩ := m4 a hat la'
  obtain ⟨b1, b2⟩ := m4 b hbt lb'
  obtain ⟨_, _, a3⟩ := tm.cg hat
  obtain ⟨_, _, b3⟩ := tm.cg hbt
  have s9 : S 9 ≤ 2 ^ e := tm.2.2.2.1.2.2
  have f09 : f0 ≤ S 9 := tm.2.2.2.1.2.1
  have ef : iteF x (D a) (D b) = f := by rw [ea, eb, ite_cof]
  unfold p_T_leadOn
  refine ⟨_, h.fT (by decide) rfl, _, h.fN (by decide) rfl, _, h.fT (by decide) rfl, h.obN (by decide), ?_⟩
  refine q_N_triedFor h sh tm hx10 (by omega) (by omega) (fun _ => hr9) (fun m hm => ?_) (fun u1 I1 hab hno hg0 h29 h916 v1 v2 v3 => ?_)
  · -- it was there
    have hmI : IN gt m := (MD_D hct hat hbt hm).1
    obtain ⟨_, _, m9⟩ := tm.cg hmI
    refine eqn' (by omega) (by omega) (fun q => absurd q (by omega)) (fun _ => ?_)
    refine eqn' (by omega) (by omega) (fun q => ?_) (fun q => ?_)
    · obtain ⟨u2, s2, h2⟩ := h.tis ts hle 24 t24 (j := a) (by omega) (I 24 a + 1)
      refine ⟨_, h.fT (by decide) rfl, _, h.tia ts hle 24 t24 (j := a) (by omega), ?_⟩
      rw [nI_1]
      refine ⟨u2, s2, hQ u2 S _ gt gg D a h2 ?_ (Or.inl ⟨q, rfl⟩) (EX.rf gg D a) (fun _ _ => ⟨rfl, rfl⟩) ⟨fun i _ _ _ q24 _ _ => up_ne _ _ q24, fun _ _ => rfl, fun _ _ => rfl, Nat.le_refl _⟩ (by omega) (by rw [Nat.sub_self]; exact hN) (by rw [Nat.sub_self]; exact hA)⟩
      refine ⟨tm.i24 (fun i hi => up_ne _ _ (by omega)), hct, hcg, hT, m1, m2, m3, fun n hn hl => ?_, m5, m6⟩
      obtain ⟨c1, c2⟩ := m4 n hn hl
      refine ⟨c1, ?_⟩
      rw [if_pos q, up_eq]
      by_cases w : n = a
      · subst w; rw [up_eq, up_eq]; omega
      · rw [up_ne _ _ w, up_ne _ _ w]; exact c2
    · have hm2 : gt m = cd x a b := by
        rcases hm with w | w
        · exact absurd w.1 q
        · exact w.2
      have hgm : gg m = gt m := m2 m (by rw [hm2]; exact cd_ne q) (by rw [hm2]; exact nk_cd (by omega) (by omega)) (by
        have := (MD_D hct hat hbt hm).2
        rw [ef] at this
        rw [this]; exact hf)
      refine hQ u S I gt gg D m h ?_ (Or.inr ⟨q, by rw [hgm]; exact hm2⟩) (EX.rf gg D m) (fun _ _ => ⟨rfl, rfl⟩) (FT.rf S I) (by omega) (by rw [Nat.sub_self]; exact hN) (by rw [Nat.sub_self]; exact hA)
      rw [if_neg q]; exact ms
  · -- a new one
    have da : ¬ dep (D a) x := la.1
    have db : ¬ dep (D b) x := lb.1
    have dx : dep f x := fun q => hab (hct.inj hat hbt (by rw [ea, eb]; exact q))
    have wo : Wo o x f := ⟨pl, hpl, hxo, fun j hj => by rw [hro j hj]; exact hf j (by omega)⟩
    have hfr : ∀ n : Nat, IN gt n → D n ≠ iteF x (D a) (D b) := fun n hn q => hno n (hct.code hn hat hbt hab da db q (fun k' w1 w2 => by
      rw [q, ef] at w1 w2
      rw [← hxo]
      exact w1.uniq w2 (by rw [hxo]; exact dx) (fun j hj => by rw [hro j hj]; exact hf j (by omega))))
    have hct' := hct.add hg0 h29 h916 hx10 hat hbt hab da db (by rw [ef]; exact wo) hfr
    have gg0 : gg (S 9) = 0 := Classical.byContradiction (fun q => m1 _ q hg0)
    have tw := turn_w hs hoc (f := f) (fun j hj => by rw [ins_lt r x hj]; exact hf j (by omega)) (by rw [ey]; exact hf c (by omega)) (by rw [ex]; exact dx)
    rw [ex] at tw
    have hcg' := hcg.add gg0 h29 h916 hx10 ha hb hab da db (by rw [ef]; exact tw.1) (fun n hn => hfr n (inT n hn))
    have nS : ∀ n : Nat, IN gt n → n ≠ S 9 := fun n hn q => by have := (tm.cg hn).2.2; omega
    have Dm : ∀ n : Nat, IN gt n → va_up D (S 9) (iteF x (D a) (D b)) n = D n := fun n hn => up_ne _ _ (nS n hn)
    have ts1 : TSH ln e := ts
    have I24 : I1 24 = I 24 := v3 24 (by decide) (by decide) (by decide)
    have I27 : I1 27 = I 27 := v3 27 (by decide) (by decide) (by decide)
    have I28 : I1 28 = I 28 := v3 28 (by decide) (by decide) (by decide)
    have I29 : I1 29 = I 29 := v3 29 (by decide) (by decide) (by decide)
    refine eqn' (by omega) (by omega) (fun _ => ?_) (fun q => absurd rfl q)
    refine ⟨_, v1.fT (by decide) rfl, _, v1.tia ts hle 24 t24 (j := a) (by omega), ?_⟩
    rw [nI_1]
    obtain ⟨u2, s2, h2⟩ := v1.tis ts hle 24 t24 (j := a) (by omega) (I1 24 a + 1)
    refine ⟨u2, s2, _, h2.fT (by decide) rfl, ?_⟩
    have rb := h2.tia ts hle 24 t24 (j := b) (by omega)
    rw [up_eq, up_ne _ _ (Ne.symm hab)] at rb
    refine ⟨_, rb, ?_⟩
    rw [nI_1]
    obtain ⟨u3, s3, h3⟩ := h2.tis ts hle 24 t24 (j := b) (by omega) (I1 24 b + 1)
    rw [up_eq, bx_uu] at h3
    refine ⟨u3, s3, h3.obT (by decide), ?_⟩
    have sh' : SH R (va_up S 9 (S 9 + 1)) ln z e := sh.s rfl
    have kdn : ∀ q : Nat, IN gt q → kd (va_up gt (S 9) (cd x a b)) q = kd gt q := fun q hq => by
      unfold kd
      rw [up_ne _ _ (nS q hq)]
    have tm3 : TM e f0 g (va_up gt (S 9) (cd x a b)) (va_up S 9 (S 9 + 1)) (va_up I1 24 (va_up (va_up (I1 24) a (I1 24 a + 1)) b (I1 24 b + 1))) ln := v2.i24 (fun i hi => up_ne _ _ (by omega))
    have inu : ∀ q : Nat, IN gt q → IN (va_up gt (S 9) (cd x a b)) q := fun q hq => in_up (cd_ne hab) hq
    have J29 : va_up I1 24 (va_up (va_up (I1 24) a (I1 24 a + 1)) b (I1 24 b + 1)) 29 = I 29 := by rw [up_ne _ _ (by decide)]; exact I29
    have lowp : ∀ q : Nat, IN gt q → lowr x r (c + 1) (D q) → I 29 (kd gt q) < 11 := fun q hq hl => by
      rcases kd_low hct hr hx10 m5 (by omega) hq hl with w | ⟨j, _, w2, _, w4⟩
      · omega
      · omega
    refine q_T_link (D := va_up D (S 9) (iteF x (D a) (D b))) h3 sh' ts tm3 hct' (m := S 9) (by omega) (inu a hat) (inu b hbt) (by rw [J29, kdn a hat]; exact lowp a hat la) (by rw [J29, kdn b hbt]; exact lowp b hbt lb) (fun u4 hh eh h4 => ?_)
    rw [J29, kdn a hat, kdn b hbt] at eh
    have J27 : va_up I1 24 (va_up (va_up (I1 24) a (I1 24 a + 1)) b (I1 24 b + 1)) 27 = I 27 := by rw [up_ne _ _ (by decide)]; exact I27
    have J28 : va_up I1 24 (va_up (va_up (I1 24) a (I1 24 a + 1)) b (I1 24 b + 1)) 28 = I 28 := by rw [up_ne _ _ (by decide)]; exact I28
    rw [J27, J28, I24] at h4
    generalize hJ : va_up (va_up (va_up I1 24 (va_up (va_up (I 24) a (I 24 a + 1)) b (I 24 b + 1))) 27 (va_up (I 27) (S 9) (I 28 hh))) 28 (va_up (I 28) hh (S 9)) = J at h4
    have K24 : J 24 = va_up (va_up (I 24) a (I 24 a + 1)) b (I 24 b + 1) := by rw [← hJ]; rfl
    have K27 : J 27 = va_up (I 27) (S 9) (I 28 hh) := by rw [← hJ]; rfl
    have K28 : J 28 = va_up (I 28) hh (S 9) := by rw [← hJ]; rfl
    have K29 : J 29 = I 29 := by rw [← hJ]; exact I29
    have Ko : ∀ i : Nat, i ≠ 24 → i ≠ 27 → i ≠ 28 → J i = I1 i := fun i q1 q2 q3 => by rw [← hJ, up_ne _ _ q3, up_ne _ _ q2, up_ne _ _ q1]
    have S9' : va_up S 9 (S 9 + 1) 9 = S 9 + 1 := up_eq _ _ _
    have gn : ∀ n : Nat, n ≠ S 9 → va_up gg (S 9) (cd x a b) n = gg n := fun n q => up_ne _ _ q
    have tn : ∀ n : Nat, n ≠ S 9 → va_up gt (S 9) (cd x a b) n = gt n := fun n q => up_ne _ _ q
    have hmp : mpl (I 29) (va_up gt (S 9) (cd x a b)) (S 9) = hh := by
      unfold mpl
      rw [up_eq, n0_cd (by omega) (by omega), n1_cd (by omega), kdn a hat, kdn b hbt, eh]
    have hmo : ∀ n : Nat, gt n ≠ 0 → mpl (I 29) (va_up gt (S 9) (cd x a b)) n = mpl (I 29) gt n := fun n hn => by
      unfold mpl
      rw [tn n (nS n (Or.inr hn)), kdn _ (hct.i0 hn), kdn _ (hct.i1 hn)]
    refine hQ u4 _ J (va_up gt (S 9) (cd x a b)) (va_up gg (S 9) (cd x a b)) (va_up D (S 9) (iteF x (D a) (D b))) (S 9) h4 ?_ (Or.inr ⟨hab, up_eq _ _ _⟩) ⟨fun n hn => ⟨in_up (cd_ne hab) hn, Dm n (inT n hn), gn n (nS n (inT n hn))⟩, fun n hn => ?_⟩ (fun n hn => ⟨Dm n hn, tn n (nS n hn)⟩) ⟨fun i q1 q2 q3 q4 q5 q6 => (Ko i q4 q5 q6).trans (v3 i q1 q2 q3), fun s q => up_ne _ _ q, fun n hn => by rw [K27, up_ne _ _ (by omega)], by rw [S9']; omega⟩ (by rw [S9']; omega) ?_ ?_
    · rw [if_neg hab]
      refine ⟨tm3.i24 (fun i hi => by rw [Ko i (by omega) (by omega) (by omega), up_ne _ _ (by omega)]), hct', hcg', ⟨fun t tt => ?_, fun n hn hTn hk => ?_⟩, fun n hn => ?_, fun n hn hk hj => ?_, fun n hn hor => ?_, fun n hn hl => ?_, by rw [K29]; exact m5, fun i i1 i2 => ?_⟩
      · obtain ⟨w1, w2, w3⟩ := hT.1 t tt
        have q := nS t (Or.inr (m1 t w1))
        rw [gn t q, Dm t (Or.inr (m1 t w1))]
        exact ⟨w1, w2, w3⟩
      · by_cases q : n = S 9
        · subst q
          rw [up_eq, ef, ey]
          exact hf c (by omega)
        · rw [gn n q] at hn hk
          rw [Dm n (Or.inr (m1 n hn))]
          exact hT.2 n hn hTn hk
      · by_cases q : n = S 9
        · subst q; rw [up_eq]; exact cd_ne hab
        · rw [gn n q] at hn; rw [tn n q]; exact m1 n hn
      · by_cases q : n = S 9
        · subst q; rw [up_eq, up_eq]
        · rw [tn n q] at hn hk ⊢
          rw [Dm n (Or.inr hn)] at hj
          rw [gn n q]; exact m2 n hn hk hj
      · by_cases q : n = S 9
        · subst q; rw [up_eq, up_eq]
        · rw [gn n q] at hn hor ⊢
          rw [Dm n (Or.inr (m1 n hn))] at hor
          rw [tn n q]; exact m3 n hn hor
      · have q : n ≠ S 9 := fun q => by
          subst q
          rw [up_eq, ef] at hl
          exact hl.1 dx
        have hn' : IN gt n := by
          rcases hn with w | w
          · exact Or.inl w
          · exact Or.inr (by rw [tn n q] at w; exact w)
        rw [Dm n hn'] at hl
        obtain ⟨c1, c2⟩ := m4 n hn' hl
        refine ⟨c1, ?_⟩
        have ru := rf_up gg (show S 9 < 16384 by omega) (cd x a b) n
        rw [gg0, r1_0, r1_cd hab (by omega) (by omega)] at ru
        rw [K24]
        by_cases w1 : n = b
        · subst w1
          rw [up_eq]
          rw [if_neg hab, if_pos rfl] at ru
          omega
        · rw [up_ne _ _ w1]
          by_cases w2 : n = a
          · subst w2
            rw [up_eq]
            rw [if_pos rfl, if_neg (Ne.symm w1)] at ru
            omega
          · rw [up_ne _ _ w2]
            rw [if_neg (Ne.symm w2), if_neg (Ne.symm w1)] at ru
            omega
      · obtain ⟨l, l1, l2, l3⟩ := m6 i i1 i2
        have nl : S 9 ∉ l := fun q => ((l3 _).mp q).1 gg0
        have cg2 : ∀ q : Nat, q ∈ l → J 27 q = I 27 q := fun q hq => by
          rw [K27]
          exact up_ne _ _ (fun w => nl (w ▸ hq))
        rw [K28, K29]
        by_cases q : i = hh
        · subst q
          refine ⟨S 9 :: l, ?_, List.nodup_cons.mpr ⟨nl, l2⟩, fun n => ?_⟩
          · rw [up_eq]
            refine ⟨rfl, by omega, ?_⟩
            have e5 : J 27 (S 9) = I 28 i := by rw [K27, up_eq]
            rw [e5]
            exact chn_congr l _ cg2 l1
          · rw [List.mem_cons, l3 n]
            by_cases w : n = S 9
            · subst w
              rw [up_eq, nk_cd (by omega) (by omega), hmp]
              exact ⟨fun _ => ⟨cd_ne hab, rfl, rfl⟩, fun _ => Or.inl rfl⟩
            · rw [gn n w]
              constructor
              · rintro (q2 | ⟨q2, q3, q4⟩)
                · exact absurd q2 w
                · exact ⟨q2, q3, by rw [hmo n (m1 n q2)]; exact q4⟩
              · rintro ⟨q2, q3, q4⟩
                exact Or.inr ⟨q2, q3, by rw [← hmo n (m1 n q2)]; exact q4⟩
        · refine ⟨l, ?_, l2, fun n => ?_⟩
          · rw [up_ne _ _ q]
            exact chn_congr l _ cg2 l1
          · rw [l3 n]
            by_cases w : n = S 9
            · subst w
              rw [up_eq, hmp]
              exact ⟨fun q2 => absurd gg0 q2.1, fun q2 => absurd q2.2.2.symm q⟩
            · rw [gn n w]
              constructor
              · rintro ⟨q2, q3, q4⟩; exact ⟨q2, q3, by rw [hmo n (m1 n q2)]; exact q4⟩
              · rintro ⟨q2, q3, q4⟩; exact ⟨q2, q3, by rw [← hmo n (m1 n q2)]; exact q4⟩
    · by_cases q : n = S 9
      · exact Or.inr q
      · rw [gn n q] at hn; exact Or.inl hn
    · rw [S9', show N + (S 9 + 1 - S 9) = N + 1 by omega]
      refine hN.add (S 9) (fun q => q gg0) (fun n => ?_)
      by_cases q : n = S 9
      · subst q; rw [up_eq]; exact ⟨fun _ => Or.inr rfl, fun _ => cd_ne hab⟩
      · rw [gn n q]; exact ⟨fun w => Or.inl w, fun w => w.resolve_right q⟩
    · rw [S9', show A + (S 9 + 1 - S 9) = A + 1 by omega]
      refine hA.add (S 9) (fun q => q.1 gg0) (fun n => ?_)
      by_cases q : n = S 9
      · subst q; rw [up_eq]; exact ⟨fun _ => Or.inr rfl, fun _ => ⟨cd_ne hab, nk_cd (by omega) (by omega)⟩⟩
      · rw [gn n q]; exact ⟨fun w => Or.inl w, fun w => w.resolve_right q⟩
end LON
