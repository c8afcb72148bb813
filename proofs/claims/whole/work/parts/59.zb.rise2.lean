/-! rising by trial: a node of the input above is turned -/
theorem nI_cd0 {a b : Nat} (ha : a < 16384) (hb : b < 16384) : (nI a <<< ((14 : Int32) &&& 31)) ||| nI b = nI (cd 0 a b) := by
  rw [show (14 : Int32) = nI 14 from rfl, nI_shl (by decide), nx_or]
  congr 1
  rw [Nat.mul_comm a, ← Nat.two_pow_add_eq_or_of_lt (i := 14) hb]
  unfold cd
  omega
section RS2
variable {ad S : Nat → Nat} {I : Nat → Nat → Nat} {ln : Nat → Nat} {L : Nat → Nat → Int64} {E : (Nat → Prop) × (Nat → Option PE)} {z R : Nat × Nat} {u : PS} {e f0 : Nat} {g gt gg rt xt : Nat → Nat} {D : Nat → Fn} {T : Nat → Prop} {o r : Nat → Nat} {x pl i : Nat}
def dcr (b : Bool) (lead : Nat → Nat) (s : Nat) : Nat → Nat := if b then va_up lead s (lead s - 1) else lead
def gnc (b : Bool) (v : Nat) : Nat := if b = true ∧ v = 1 then 1 else 0
theorem q_T_rdec (h : VC 69 ad S I ln L E z u) (sh : SH R S ln z e) (ts : TSH ln e) {s gone : Nat} {b : Bool} (hs : s < 2 ^ e) (hp : b = true → 1 ≤ I 24 s) (hlt : b = true → I 24 s < 2 ^ 31) {C : Int32 → PS → Prop} (hQ : ∀ u' : PS, VC 69 ad S (va_up I 24 (dcr b (I 24) s)) ln L E z u' → C (nI (gone + gnc b (I 24 s))) u') : (bI b = 0 → C (nI gone) u) ∧ (¬ bI b = 0 → (∃ z_50 : Nat, x_fr u (ad 5) 4 3 z_50 ∧ (∃ z_51 : Int32, x_ia u z_50 (nI s) z_51 ∧ (∃ u_52 : PS, x_is u z_50 (nI s) (z_51 - (1 : Int32)) u_52 ∧ (∃ z_53 : Nat, x_fr u_52 (ad 5) 4 3 z_53 ∧ (∃ z_54 : Int32, x_ia u_52 z_53 (nI s) z_54 ∧ ((¬ z_54 = 0 → C (nI gone) u_52) ∧ (z_54 = 0 → (∀ x8_55 : Int32, x8_55 = (nI gone + 1) → C x8_55 u_52))))))))) := by
  have hle := sh.le
  cases b
  · refine ⟨fun _ => ?_, fun q => absurd rfl q⟩
    have e1 : dcr false (I 24) s = I 24 := rfl
    have := hQ u (by rw [e1, up_id]; exact h)
    have e2 : gnc false (I 24 s) = 0 := if_neg (fun q => absurd q.1 (by decide))
    rw [e2] at this
    exact this
  · refine ⟨fun q => absurd q (by decide), fun _ => ?_⟩
    have p := hp rfl
    obtain ⟨u1, s1, h1⟩ := h.tis ts hle 24 t24 hs (I 24 s - 1)
    have v := h1.tia ts hle 24 t24 hs
    rw [up_eq, up_eq] at v
    have e1 : dcr true (I 24) s = va_up (I 24) s (I 24 s - 1) := rfl
    have k := hQ u1 (by rw [e1]; exact h1)
    refine ⟨_, h.fT (by decide) rfl, _, h.tia ts hle 24 t24 hs, ?_⟩
    rw [show (1 : Int32) = nI 1 from rfl, pk_sub p]
    refine ⟨u1, s1, _, h1.fT (by decide) rfl, _, v, fun q => ?_, fun q => nm_e ?_⟩
    · have q0 : I 24 s ≠ 1 := fun w => q (by rw [w]; rfl)
      have e2 : gnc true (I 24 s) = 0 := if_neg (fun w => q0 w.2)
      rw [e2] at k
      exact k
    · have hl := hlt rfl
      have q0 : I 24 s - 1 = 0 := (nI_0I (by omega)).mp q
      have e2 : gnc true (I 24 s) = 1 := if_pos ⟨rfl, by omega⟩
      rw [e2] at k
      rw [nI_add]
      exact k
theorem q_T_rpart (h : VC 69 ad S I ln L E z u) (sh : SH R S ln z e) (ts : TSH ln e) {s : Nat} {b : Bool} (hs : s < 2 ^ e) {C : Int32 → PS → Prop} (hQ : C (nI (if b then I 26 s else cd 0 s s)) u) : (bI b = 0 → C ((nI s <<< ((14 : Int32) &&& 31)) ||| nI s) u) ∧ (¬ bI b = 0 → (∃ z_42 : Nat, x_fr u (ad 5) 4 6 z_42 ∧ (∃ z_43 : Int32, x_ia u z_42 (nI s) z_43 ∧ C z_43 u))) := by
  have hle := sh.le
  cases b
  · refine ⟨fun _ => ?_, fun q => absurd rfl q⟩
    rw [nI_cd0 (by omega) (by omega)]
    exact hQ
  · refine ⟨fun q => absurd q (by decide), fun _ => ⟨_, h.fT (by decide) rfl, _, h.tia ts hle 26 t26 hs, hQ⟩⟩
theorem dl_count {W : Nat → Fn → Prop} {g3 : Nat → Nat} {b : Bool} {s v N A : Nat} (hc : CAN W g3 D) (h1 : b = true → g3 s ≠ 0 ∧ nk (g3 s) = x ∧ rf g3 s + rr rt s + 1 = v) (h0 : b = false → dl g3 rt s = g3) (hN : Cnt (fun n => g3 n ≠ 0) N) (hA : Cnt (fun n => g3 n ≠ 0 ∧ nk (g3 n) = x) A) : Cnt (fun n => dl g3 rt s n ≠ 0) (N - gnc b v) ∧ Cnt (fun n => dl g3 rt s n ≠ 0 ∧ nk (dl g3 rt s n) = x) (A - gnc b v) ∧ gnc b v ≤ N ∧ gnc b v ≤ A := by
  by_cases c : b = true ∧ v = 1
  · have e : gnc b v = 1 := if_pos c
    obtain ⟨q1, q2, q3⟩ := h1 c.1
    have hnl : ¬ LED g3 rt s := fun w => by have := (led_iff hc rt s).mp w; omega
    rw [e, dl_neg hnl]
    have a := hN.sub s (P := fun n => va_up g3 s 0 n ≠ 0) q1 (fun n => by
      by_cases q : n = s
      · subst q; rw [up_eq]; exact ⟨fun w => absurd rfl w, fun w => absurd rfl w.2⟩
      · rw [up_ne _ _ q]; exact ⟨fun w => ⟨w, q⟩, fun w => w.1⟩)
    have a2 := hA.sub s (P := fun n => va_up g3 s 0 n ≠ 0 ∧ nk (va_up g3 s 0 n) = x) ⟨q1, q2⟩ (fun n => by
      by_cases q : n = s
      · subst q; rw [up_eq]; exact ⟨fun w => absurd rfl w.1, fun w => absurd rfl w.2⟩
      · rw [up_ne _ _ q]; exact ⟨fun w => ⟨w, q⟩, fun w => w.1⟩)
    exact ⟨a.2, a2.2, a.1, a2.1⟩
  · have e : gnc b v = 0 := if_neg c
    have hd : dl g3 rt s = g3 := by
      cases b
      · exact h0 rfl
      · obtain ⟨q1, q2, q3⟩ := h1 rfl
        exact dl_pos ((led_iff hc rt s).mpr (by
          have : v ≠ 1 := fun w => c ⟨rfl, w⟩
          omega))
    rw [e, hd]
    exact ⟨hN, hA, by omega, by omega⟩
theorem dcr_ne {b : Bool} {lead : Nat → Nat} {s n : Nat} (h : n ≠ s) : dcr b lead s n = lead n := by
  cases b
  · rfl
  · exact up_ne _ _ h
/-- a tracked node: of x, of an input above, or to be turned -/
def trkd (r : Nat → Nat) (x i : Nat) (T : Nat → Prop) (gg : Nat → Nat) (n : Nat) : Prop := nk (gg n) = x ∨ (∃ j : Nat, j < i ∧ nk (gg n) = r j) ∨ T n
theorem q_T_rstep (h : VC 69 ad S I ln L E z u) (sh : SH R S ln z e) (ts : TSH ln e) (ho : PO o) (hr : PR9 r x) (hx10 : x < 10) (hi9 : i < 9) (hio : o i = r i) (hro : ∀ j : Nat, j < i → o j = r j) (ms : MRI e f0 g rt o r x i gt gg D T (fun _ => 0) S I ln) (hL : ∀ m : Nat, gg m ≠ 0 → LED gg rt m) {n gone N A : Nat} (hn : T n) (hnf : n < f0) (hN : Cnt (fun n => gg n ≠ 0) N) (hA : Cnt (fun n => gg n ≠ 0 ∧ nk (gg n) = x) A) (hroom : S 9 + 2 ≤ 2 ^ e) {bz bo : Bool} (hbz : bz = true ↔ kd gg (n0 (gg n)) = x) (hbo : bo = true ↔ kd gg (n1 (gg n)) = x) {C : Int32 → Int32 → PS → Prop} {X : Int32 → PS → Prop} {a7 : Int32} {j : Nat} {row : Nat} {x6 : Int32}
    (hQ : ∀ (u' : PS) (S' : Nat → Nat) (I' : Nat → Nat → Nat) (gt' gg' : Nat → Nat) (D' : Nat → Fn) (gone' N' A' : Nat), VC 69 ad S' I' ln L E z u' → MRI e f0 g rt o r x i gt' gg' D' (fun m => T m ∧ m ≠ n) (fun _ => 0) S' I' ln → (∀ m : Nat, gg' m ≠ 0 → LED gg' rt m) → (∀ p : Nat, p < 24 → IN gg (rt p) → IN gg' (rt p) ∧ D' (rt p) = D (rt p)) → (∀ m : Nat, IN gt m → D' m = D m ∧ gt' m = gt m) → Cnt (fun m => gg' m ≠ 0) N' → Cnt (fun m => gg' m ≠ 0 ∧ nk (gg' m) = x) A' → N' + gone' + S 9 = N + gone + S' 9 → A' + gone' = A + gone + 1 → S' 13 = S 13 + 1 → S' 9 ≤ S 9 + 2 → FR2 S I S' I' → gone ≤ gone' → p_T_riseAbove_J356 C X (ad 5) (nI (r i)) (ad 7) row (ad 25) (nI (S 14)) x6 a7 (nI gone') (nI j) u') :
    p_T_riseAbove_J166 C X (ad 5) (nI (r i)) (ad 7) row (ad 25) (nI (S 14)) x6 a7 (nI gone) (nI j) (nI n) (nI (n0 (gg n))) (nI (n1 (gg n))) (bI bz) (bI bo) u := by
  have hle := sh.le
  obtain ⟨tm, hct, hcg, hT, k1, k2, k3, k3', k4, k5, k6, k7⟩ := id ms
  have hy10 : r i < 10 := (hr.1 i hi9).1
  have hxy : r i ≠ x := (hr.1 i hi9).2
  have hs : SW (insO r (i + 1) x) (insO r i x) i := (ins_sw r x hi9).symm
  have hoc : PO (insO r (i + 1) x) := insO_PO hr hx10 (by omega)
  have ey : insO r (i + 1) x i = r i := ins_lt r x (by omega)
  have ex : insO r (i + 1) x (i + 1) = x := insO_at r (i + 1) x
  have s9 : S 9 ≤ 2 ^ e := tm.2.2.2.1.2.2
  have f09 : f0 ≤ S 9 := tm.2.2.2.1.2.1
  have inT : ∀ q : Nat, IN gg q → IN gt q := fun q hq => by
    rcases hq with w | w
    · exact Or.inl w
    · exact Or.inr (k1 q w)
  obtain ⟨hg, hk, hd⟩ := hT.1 n hn
  obtain ⟨f1, f2⟩ := turn_facts hs hoc hcg hg hk
  rw [ey] at hk
  rw [ex] at hd f2
  have i0 := hcg.i0 hg
  have i1 := hcg.i1 hg
  have hsz : n0 (gg n) ≠ n1 (gg n) := hcg.ne hg
  have c0 : D (n0 (gg n)) = cof (r i) false (D n) := by rw [← hcg.c0 hg, hk]
  have c1 : D (n1 (gg n)) = cof (r i) true (D n) := by rw [← hcg.c1 hg, hk]
  have fr : ∀ j : Nat, j < i → ¬ dep (D n) (r j) := fun j hj => by
    have := f1 j hj
    rw [ins_lt r x (by omega)] at this
    exact this
  -- children that are x's are live and tracked
  have liv : ∀ (b : Bool) (s : Nat), IN gg s → (b = true ↔ kd gg s = x) → b = true → gg s ≠ 0 ∧ nk (gg s) = x := fun b s hs2 hb hbt => kd_live hcg hx10 hs2 (hb.mp hbt)
  have pos : ∀ (b : Bool) (s : Nat), IN gg s → (b = true ↔ kd gg s = x) → (n0 (gg n) = s ∨ n1 (gg n) = s) → b = true → 1 ≤ I 24 s := fun b s hs2 hb hch hbt => by
    obtain ⟨q1, q2⟩ := liv b s hs2 hb hbt
    have q3 := k5 s q1 (Or.inl q2)
    have q4 := (led_iff hcg rt s).mp (Or.inl ⟨n, hg, hch⟩)
    dsimp only at q3
    omega
  have i24 : ∀ s : Nat, IN gg s → s < 2 ^ e := fun s hs2 => by have := (tm.cg (inT s hs2)).2.2; omega
  have ltt : ∀ (b : Bool) (s : Nat), IN gg s → (b = true ↔ kd gg s = x) → b = true → I 24 s < 2 ^ 31 := fun b s hs2 hb hbt => by
    obtain ⟨q1, q2⟩ := liv b s hs2 hb hbt
    have q3 := k5 s q1 (Or.inl q2)
    have q4 := rf_le gg s
    have q5 := rr_le rt s
    omega
  -- a tracked child is x's
  have chx : ∀ s : Nat, (s = n0 (gg n) ∨ s = n1 (gg n)) → gg s ≠ 0 → (nk (gg s) = x ∨ (∃ j : Nat, j < i ∧ nk (gg s) = r j) ∨ T s) → kd gg s = x := fun s hsn hgs htr => by
    have hcf : ∃ b : Bool, D s = cof (r i) b (D n) := by
      rcases hsn with w | w
      · exact ⟨false, by rw [w, c0]⟩
      · exact ⟨true, by rw [w, c1]⟩
    obtain ⟨b, eb⟩ := hcf
    have hds := hcg.dp hgs
    rcases htr with w | ⟨j, w1, w2⟩ | w
    · rw [kd_of hcg hgs]; exact w
    · rw [w2, eb] at hds
      exact absurd (cof_dep hds) (fr j w1)
    · rw [(hT.1 s w).2.1, ey, eb] at hds
      exact absurd hds (not_dep_cof _ _ _)
  unfold p_T_riseAbove_J166
  refine q_T_rdec (C := fun v u => p_T_riseAbove_J195 C X (ad 5) (nI (r i)) (ad 7) row (ad 25) (nI (S 14)) x6 a7 v (nI j) (nI n) (nI (n0 (gg n))) (nI (n1 (gg n))) (bI bz) (bI bo) u) h sh ts (i24 _ i0) (pos bz _ i0 hbz (Or.inl rfl)) (ltt bz _ i0 hbz) (fun u1 h1 => ?_)
  unfold p_T_riseAbove_J195
  have e1o : va_up I 24 (dcr bz (I 24) (n0 (gg n))) 24 (n1 (gg n)) = I 24 (n1 (gg n)) := by rw [up_eq, dcr_ne (Ne.symm hsz)]
  refine q_T_rdec (C := fun v u => p_T_riseAbove_J224 C X (ad 5) (nI (r i)) (ad 7) row (ad 25) (nI (S 14)) x6 a7 v (nI j) (nI n) (nI (n0 (gg n))) (nI (n1 (gg n))) (bI bz) (bI bo) u) h1 sh ts (i24 _ i1) (by rw [e1o]; exact pos bo _ i1 hbo (Or.inr rfl)) (by rw [e1o]; exact ltt bo _ i1 hbo) (fun u2 h2 => ?_)
  rw [up_eq, bx_uu] at h2
  rw [e1o]
  generalize hl2 : dcr bo (dcr bz (I 24) (n0 (gg n))) (n1 (gg n)) = lead2 at h2
  have l2z : bz = true → lead2 (n0 (gg n)) = I 24 (n0 (gg n)) - 1 := fun w => by
    rw [← hl2, dcr_ne hsz, w]
    exact up_eq _ _ _
  have l2o : bo = true → lead2 (n1 (gg n)) = I 24 (n1 (gg n)) - 1 := fun w => by
    rw [← hl2, w]
    show va_up (dcr bz (I 24) (n0 (gg n))) (n1 (gg n)) (dcr bz (I 24) (n0 (gg n)) (n1 (gg n)) - 1) (n1 (gg n)) = _
    rw [up_eq, dcr_ne (Ne.symm hsz)]
  have l2n : ∀ s : Nat, s ≠ n0 (gg n) → s ≠ n1 (gg n) → lead2 s = I 24 s := fun s w1 w2 => by rw [← hl2, dcr_ne w2, dcr_ne w1]
  have r1v : ∀ c : Nat, r1 (gg n) c = (if n0 (gg n) = c then 1 else 0) + (if n1 (gg n) = c then 1 else 0) := fun c => if_neg hg
  have ms2 : MRI e f0 g rt o r x i gt gg D T (fun s => r1 (gg n) s) S (va_up I 24 lead2) ln := by
    have J25 : va_up I 24 lead2 25 = I 25 := rfl
    have J26 : va_up I 24 lead2 26 = I 26 := rfl
    refine ⟨tm.i24 (fun q hq => up_ne _ _ (by omega)), hct, hcg, hT, k1, k2, k3, k3', k4, fun s hs2 htr => ?_, k6, k7⟩
    have q := k5 s hs2 htr
    dsimp only at q ⊢
    rw [up_eq, r1v]
    by_cases w1 : s = n0 (gg n)
    · have hb : bz = true := hbz.mpr (by rw [← w1]; exact chx s (Or.inl w1) hs2 htr)
      have p := pos bz _ i0 hbz (Or.inl rfl) hb
      rw [w1, l2z hb, if_pos rfl, if_neg (Ne.symm hsz)]
      rw [w1] at q
      omega
    · by_cases w2 : s = n1 (gg n)
      · have hb : bo = true := hbo.mpr (by rw [← w2]; exact chx s (Or.inr w2) hs2 htr)
        have p := pos bo _ i1 hbo (Or.inr rfl) hb
        rw [w2, l2o hb, if_neg hsz, if_pos rfl]
        rw [w2] at q
        omega
      · rw [l2n s w1 w2, if_neg (Ne.symm w1), if_neg (Ne.symm w2)]
        omega
  -- the parts
  have prt : ∀ (b : Bool) (s : Nat), IN gg s → (b = true ↔ kd gg s = x) → (if b then va_up I 24 lead2 26 s else cd 0 s s) < 2 ^ 32 ∧ n0 (if b then va_up I 24 lead2 26 s else cd 0 s s) = pt gg x false s ∧ n1 (if b then va_up I 24 lead2 26 s else cd 0 s s) = pt gg x true s := fun b s hs2 hb => by
    have hs3 := i24 s hs2
    cases b
    · have hk2 : kd gg s ≠ x := fun w => absurd (hb.mpr w) (by decide)
      have e1 : ∀ c : Bool, pt gg x c s = s := fun c => if_neg hk2
      rw [e1, e1]
      refine ⟨cd_lt (by omega) (by omega) (by omega), n0_cd (by omega) (by omega), n1_cd (by omega)⟩
    · obtain ⟨q1, q2⟩ := liv true s hs2 hb rfl
      obtain ⟨q3, q4, q5⟩ := k4 s q1 q2
      have hk2 : kd gg s = x := hb.mp rfl
      refine ⟨q5, ?_, ?_⟩
      · show n0 (I 26 s) = _
        rw [q3]; unfold pt; rw [if_pos hk2]; rfl
      · show n1 (I 26 s) = _
        rw [q4]; unfold pt; rw [if_pos hk2]; rfl
  obtain ⟨z1, z2, z3⟩ := prt bz _ i0 hbz
  obtain ⟨w1, w2, w3⟩ := prt bo _ i1 hbo
  unfold p_T_riseAbove_J224
  refine q_T_rpart (C := fun v u => p_T_riseAbove_J247 C X (ad 5) (nI (r i)) (ad 7) row (ad 25) (nI (S 14)) x6 a7 (nI (gone + gnc bz (I 24 (n0 (gg n))) + gnc bo (I 24 (n1 (gg n))))) (nI j) (nI n) (nI (n1 (gg n))) (bI bo) v u) h2 sh ts (i24 _ i0) ?_
  unfold p_T_riseAbove_J247
  refine q_T_rpart (C := fun v u => p_T_riseAbove_J272 C X (ad 5) (nI (r i)) (ad 7) row (ad 25) (nI (S 14)) x6 a7 (nI (gone + gnc bz (I 24 (n0 (gg n))) + gnc bo (I 24 (n1 (gg n))))) (nI j) (nI n) _ v u) h2 sh ts (i24 _ i1) ?_
  unfold p_T_riseAbove_J272
  rw [nI_n0 z1, nI_n0 w1, nI_n1, nI_n1, z2, z3, w2, w3]
  refine ⟨_, h2.fT (by decide) rfl, h2.obN (by decide), ?_⟩
  have pa := fun b : Bool => (f2 _ (Or.inl rfl)).2 b
  have pb := fun b : Bool => (f2 _ (Or.inr rfl)).2 b
  have qa : ∀ b : Bool, D (pt gg x b (n0 (gg n))) = cof (r i) false (cof x b (D n)) := fun b => by rw [(pa b).2, c0, cof_comm hxy.symm]
  have qb : ∀ b : Bool, D (pt gg x b (n1 (gg n))) = cof (r i) true (cof x b (D n)) := fun b => by rw [(pb b).2, c1, cof_comm hxy.symm]
  have hfx : ∀ b : Bool, ¬ dep (cof x b (D n)) x := fun b => not_dep_cof _ _ _
  have hfb : ∀ (b : Bool) (j : Nat), j < i → ¬ dep (cof x b (D n)) (r j) := fun b j hj q => fr j hj (cof_dep q)
  refine q_T_half h2 sh ho hr hx10 hi9 hio hro ms2 (f := cof x false (D n)) (pa false).1 (pb false).1 (qa false) (qb false) (hfx false) (hfb false) (by omega) hN hA (fun u3 S3 I3 gt3 gg3 D3 m0 v1 v2 v3 v4 v5 v6 v7 v8 v9 v10 v11 v12 => ?_)
  have sh3 : SH R S3 ln z e := sh.s (v7 7 (by decide))
  refine ⟨_, v1.fT (by decide) rfl, v1.obN (by decide), ?_⟩
  refine q_T_half v1 sh3 ho hr hx10 hi9 hio hro v2 (f := cof x true (D n)) (v4.1 _ (pa true).1).1 (v4.1 _ (pb true).1).1 (by rw [(v4.1 _ (pa true).1).2.1]; exact qa true) (by rw [(v4.1 _ (pb true).1).2.1]; exact qb true) (hfx true) (hfb true) (by omega) v10 v11 (fun u4 S4 I4 gg4t gg2 D2 m1' y1 y2 y3 y4 y5 y6 y7 y8 y9 y10 y11 y12 => ?_)
  have sh4 : SH R S4 ln z e := sh3.s (y7 7 (by decide))
  obtain ⟨x1, x2⟩ := v4.tr y4
  have inT1 : ∀ q : Nat, IN gt q → IN gt3 q := fun q hq => by
    rcases hq with w | w
    · exact Or.inl w
    · exact Or.inr (by rw [(v5 q (Or.inr w)).2]; exact w)
  have tt1 : ∀ q : Nat, IN gt q → D2 q = D q ∧ gg4t q = gt q := fun q hq => by
    have p := v5 q hq
    have p2 := y5 q (inT1 q hq)
    exact ⟨p2.1.trans p.1, p2.2.trans p.2⟩
  obtain ⟨tm2, hct2, hcg2, hT2, l1, l2, l3, l3', l4, l5, l6, l7⟩ := y2
  have gn2 : gg2 n = gg n := (x1 n (Or.inr hg)).2.2
  have Dn2 : D2 n = D n := (x1 n (Or.inr hg)).2.1
  have hg2 : gg2 n ≠ 0 := by rw [gn2]; exact hg
  have hk2 : nk (gg2 n) = insO r (i + 1) x i := by rw [gn2, ey]; exact hk
  have hd2 : dep (D2 n) (insO r (i + 1) x (i + 1)) := by rw [Dn2, ex]; exact hd
  have pte : ∀ (b : Bool) (q : Nat), IN gg q → pt gg2 x b q = pt gg x b q := fun b q hq => by
    unfold pt kd
    rw [(x1 q hq).2.2]
  have hm : ∀ b : Bool, MD gg2 (insO r (i + 1) x i) (pt gg2 (insO r (i + 1) x (i + 1)) b (n0 (gg2 n))) (pt gg2 (insO r (i + 1) x (i + 1)) b (n1 (gg2 n))) (if b then m1' else m0) := fun b => by
    rw [gn2, ex, ey, pte b _ i0, pte b _ i1]
    cases b
    · exact MD.ex y4 v3 (v4.1 _ (pa false).1).1
    · exact y3
  have hL2 : ∀ m : Nat, gg2 m ≠ 0 → ¬ (m = (if false then m1' else m0) ∨ m = (if true then m1' else m0)) → LED gg2 rt m := fun m hm2 hno => by
    rcases x2 m hm2 with q | q | q
    · rcases hL m q with ⟨m', q1, q2⟩ | q1
      · exact Or.inl ⟨m', by rw [(x1 m' (Or.inr q1)).2.2]; exact q1, by rw [(x1 m' (Or.inr q1)).2.2]; exact q2⟩
      · exact Or.inr q1
    · exact absurd (Or.inl q) hno
    · exact absurd (Or.inr q) hno
  obtain ⟨t1, t2, t3, t4, t5, t6, t7, t8⟩ := turn_ok (rt := rt) hs hoc hcg2 hg2 hk2 hd2 (mb := fun b => if b then m1' else m0) hm hL2
  have m0e : (if false then m1' else m0) = m0 := rfl
  have m1e : (if true then m1' else m0) = m1' := rfl
  rw [m0e, m1e, ex] at t1 t2 t4 t7 t8
  have u0 := t3 false
  have u1' := t3 true
  rw [m0e, Dn2, ex] at u0
  rw [m1e, Dn2, ex] at u1'
  have hm01 : m0 ≠ m1' := fun q => hd (by rw [← u0.2, ← u1'.2, q])
  have lm0 := hcg2.inlt u0.1
  have lm1 := hcg2.inlt u1'.1
  rw [gn2] at t5 t6 t7 t8
  have gup : ∀ q : Nat, q ≠ n → va_up gg2 n (cd x m0 m1') q = gg2 q := fun q w => up_ne _ _ w
  have gnn : va_up gg2 n (cd x m0 m1') n = cd x m0 m1' := up_eq _ _ _
  have nkn : nk (cd x m0 m1') = x := nk_cd lm0 lm1
  have g2z : gg2 (n0 (gg n)) = gg (n0 (gg n)) := (x1 _ i0).2.2
  have g2o : gg2 (n1 (gg n)) = gg (n1 (gg n)) := (x1 _ i1).2.2
  -- tracked nodes are none of the new ones
  have trn : ∀ s : Nat, gg2 s ≠ 0 → (nk (gg2 s) = x ∨ (∃ j : Nat, j < i ∧ nk (gg2 s) = r j) ∨ T s) → r1 (cd x m0 m1') s = 0 := fun s hs2 htr => by
    have hds := hcg2.dp hs2
    have key : ∀ q : Nat, (∃ c : Bool, D2 q = cof x c (D n)) → q ≠ s := fun q ⟨c, ec⟩ w => by
      rw [w] at ec
      rcases htr with w1 | ⟨j, w1, w2⟩ | w1
      · rw [w1, ec] at hds
        exact not_dep_cof _ _ _ hds
      · rw [w2, ec] at hds
        exact fr j w1 (cof_dep hds)
      · have w2 := (hT2.1 s w1).2.2
        rw [ex, ec] at w2
        exact not_dep_cof _ _ _ w2
    rw [r1_cd hm01 lm0 lm1, if_neg (key m0 ⟨false, u0.2⟩), if_neg (key m1' ⟨true, u1'.2⟩)]
  have rf3 : ∀ s : Nat, gg2 s ≠ 0 → (nk (gg2 s) = x ∨ (∃ j : Nat, j < i ∧ nk (gg2 s) = r j) ∨ T s) → I4 24 s = rf (va_up gg2 n (cd x m0 m1')) s + rr rt s := fun s hs2 htr => by
    have a := l5 s hs2 htr
    have b := rf_up gg2 (hcg2.lt hg2) (cd x m0 m1') s
    rw [trn s hs2 htr, gn2] at b
    dsimp only at a
    omega
  have J24 : I4 24 = lead2 := by rw [y6 24 (by decide) (by decide) (by decide), v6 24 (by decide) (by decide) (by decide), up_eq]
  have J25 : I4 25 = I 25 := by rw [y6 25 (by decide) (by decide) (by decide), v6 25 (by decide) (by decide) (by decide)]; rfl
  have J26 : I4 26 = I 26 := by rw [y6 26 (by decide) (by decide) (by decide), v6 26 (by decide) (by decide) (by decide)]; rfl
  have S414 : S4 14 = S 14 := by rw [y7 14 (by decide), v7 14 (by decide)]
  have S413 : S4 13 = S 13 := by rw [y7 13 (by decide), v7 13 (by decide)]
  -- what is left of an x-node's code when it goes leads to no tracked one
  have hN3 : Cnt (fun m => va_up gg2 n (cd x m0 m1') m ≠ 0) (N + (S3 9 - S 9) + (S4 9 - S3 9)) := y10.congr (fun m => by
    by_cases q : m = n
    · subst q; rw [gnn]; exact ⟨fun _ => cd_ne hm01, fun _ => hg2⟩
    · rw [gup m q])
  have hA3 : Cnt (fun m => va_up gg2 n (cd x m0 m1') m ≠ 0 ∧ nk (va_up gg2 n (cd x m0 m1') m) = x) (A + 1) := y11.add n (fun w => by
    have := w.2
    rw [gn2, hk] at this
    exact hxy this) (fun m => by
    by_cases q : m = n
    · subst q; rw [gnn]; exact ⟨fun _ => Or.inr rfl, fun _ => ⟨cd_ne hm01, nkn⟩⟩
    · rw [gup m q]; exact ⟨fun w => Or.inl w, fun w => w.resolve_right q⟩)
  have zx : bz = true → gg2 (n0 (gg n)) ≠ 0 ∧ nk (gg2 (n0 (gg n))) = x := fun w => by rw [g2z]; exact liv bz _ i0 hbz w
  have ox : bo = true → gg2 (n1 (gg n)) ≠ 0 ∧ nk (gg2 (n1 (gg n))) = x := fun w => by rw [g2o]; exact liv bo _ i1 hbo w
  have cz := dl_count (rt := rt) (x := x) (b := bz) (s := n0 (gg n)) (v := I 24 (n0 (gg n))) t4 (fun w => by
    obtain ⟨q1, q2⟩ := zx w
    rw [gup _ (Ne.symm t5)]
    refine ⟨q1, q2, ?_⟩
    have a := rf3 _ q1 (Or.inl q2)
    rw [J24, l2z w] at a
    have p := pos bz _ i0 hbz (Or.inl rfl) w
    omega) (fun w => by
    by_cases q : n0 (gg n) < 2
    · exact dl_0 (t4.nz q)
    · refine dl_pos (t7 _ (Or.inl rfl) (fun w2 => ?_))
      have w3 : kd gg (n0 (gg n)) = x := by
        unfold kd at w2 ⊢
        rw [g2z] at w2
        exact w2
      rw [hbz.mpr w3] at w
      exact absurd w (by decide)) hN3 hA3
  have hc4 := dl_can (rt := rt) t4 (n0 (gg n))
  have go4 : dl (va_up gg2 n (cd x m0 m1')) rt (n0 (gg n)) (n1 (gg n)) = gg2 (n1 (gg n)) := by rw [dl_ne (Ne.symm hsz), gup _ (Ne.symm t6)]
  -- a deleted x-node doesn't change what leads to tracked ones
  have rfd : ∀ (G : Nat → Nat) (s q : Nat), CAN (W2 (insO r (i + 1) x) (insO r i x)) G D2 → (s = n0 (gg n) ∨ s = n1 (gg n)) → (G s = 0 ∨ G s = gg2 s) → (dl G rt s = G ∨ (G s ≠ 0 ∧ nk (G s) = x)) → G q ≠ 0 → (nk (G q) = x ∨ (∃ j : Nat, j < i ∧ nk (G q) = r j) ∨ T q) → rf (dl G rt s) q = rf G q := fun G s q hG hsn hGs hor hq htr => by
    by_cases hl : LED G rt s
    · rw [dl_pos hl]
    · rcases hor with w | ⟨w1, w2⟩
      · rw [w]
      · rw [dl_neg hl]
        have b := rf_up G (hG.lt w1) 0 q
        rw [r1_0] at b
        have hdq := hG.dp hq
        have hDs : ∃ c : Bool, D2 s = cof (r i) c (D n) := by
          rcases hsn with w | w
          · exact ⟨false, by rw [w, (x1 _ i0).2.1, c0]⟩
          · exact ⟨true, by rw [w, (x1 _ i1).2.1, c1]⟩
        obtain ⟨c, ec⟩ := hDs
        have key : ∀ p : Nat, (∃ c2 : Bool, D2 p = cof x c2 (D2 s)) → p ≠ q := fun p ⟨c2, ec2⟩ w => by
          rw [w] at ec2
          rcases htr with q1 | ⟨j, q1, q2⟩ | q1
          · rw [q1, ec2] at hdq
            exact not_dep_cof _ _ _ hdq
          · rw [q2, ec2, ec] at hdq
            exact fr j q1 (cof_dep (cof_dep hdq))
          · have q2 := (hT2.1 q q1).2.2
            rw [ex, ec2] at q2
            exact not_dep_cof _ _ _ q2
        have r0 : r1 (G s) q = 0 := by
          unfold r1
          rw [if_neg w1, if_neg (key _ ⟨false, by rw [← hG.c0 w1, w2]⟩), if_neg (key _ ⟨true, by rw [← hG.c1 w1, w2]⟩)]
        omega
  have dz : dl (va_up gg2 n (cd x m0 m1')) rt (n0 (gg n)) = va_up gg2 n (cd x m0 m1') ∨ (va_up gg2 n (cd x m0 m1') (n0 (gg n)) ≠ 0 ∧ nk (va_up gg2 n (cd x m0 m1') (n0 (gg n))) = x) := by
    cases hb : bz
    · left
      by_cases q : n0 (gg n) < 2
      · exact dl_0 (t4.nz q)
      · refine dl_pos (t7 _ (Or.inl rfl) (fun w2 => ?_))
        have w3 : kd gg (n0 (gg n)) = x := by
          unfold kd at w2 ⊢
          rw [g2z] at w2
          exact w2
        rw [hbz.mpr w3] at hb
        exact absurd hb (by decide)
    · right
      rw [gup _ (Ne.symm t5)]
      exact zx hb
  have rf4 : ∀ q : Nat, dl (va_up gg2 n (cd x m0 m1')) rt (n0 (gg n)) q ≠ 0 → (nk (dl (va_up gg2 n (cd x m0 m1')) rt (n0 (gg n)) q) = x ∨ (∃ j : Nat, j < i ∧ nk (dl (va_up gg2 n (cd x m0 m1')) rt (n0 (gg n)) q) = r j) ∨ T q) → rf (dl (va_up gg2 n (cd x m0 m1')) rt (n0 (gg n))) q = rf (va_up gg2 n (cd x m0 m1')) q := fun q hq htr => by
    have w := dl_live hq
    rw [w] at hq htr
    exact rfd _ _ q t4 (Or.inl rfl) (Or.inr (gup _ (Ne.symm t5))) dz hq htr
  have o_no : bo = false → dl (dl (va_up gg2 n (cd x m0 m1')) rt (n0 (gg n))) rt (n1 (gg n)) = dl (va_up gg2 n (cd x m0 m1')) rt (n0 (gg n)) := fun w => by
    by_cases q : n1 (gg n) < 2
    · exact dl_0 (hc4.nz q)
    · refine dl_pos (t8 (fun w2 => ?_))
      have w3 : kd gg (n1 (gg n)) = x := by
        unfold kd at w2 ⊢
        rw [g2o] at w2
        exact w2
      rw [hbo.mpr w3] at w
      exact absurd w (by decide)
  have co := dl_count (rt := rt) (x := x) (b := bo) (s := n1 (gg n)) (v := I 24 (n1 (gg n))) hc4 (fun w => by
    obtain ⟨q1, q2⟩ := ox w
    rw [go4]
    refine ⟨q1, q2, ?_⟩
    rw [rf4 _ (by rw [go4]; exact q1) (Or.inl (by rw [go4]; exact q2))]
    have a := rf3 _ q1 (Or.inl q2)
    rw [J24, l2o w] at a
    have p := pos bo _ i1 hbo (Or.inr rfl) w
    omega) o_no cz.1 cz.2.1
  have et : dl (dl (va_up gg2 n (cd x m0 m1')) rt (n0 (gg n))) rt (n1 (gg n)) = turnG gg2 rt n x m0 m1' := by
    unfold turnG
    rw [gn2]
  have gT : ∀ q : Nat, turnG gg2 rt n x m0 m1' q ≠ 0 → turnG gg2 rt n x m0 m1' q = va_up gg2 n (cd x m0 m1') q := fun q w => by
    rw [← et] at w ⊢
    have q2 := dl_live w
    rw [q2] at w
    rw [q2, dl_live w]
  have gTn : ∀ q : Nat, q ≠ n0 (gg n) → q ≠ n1 (gg n) → turnG gg2 rt n x m0 m1' q = va_up gg2 n (cd x m0 m1') q := fun q q1 q2 => by
    rw [← et, dl_ne q2, dl_ne q1]
  -- only marked nodes may have gone
  have gmk : ∀ q : Nat, q ≠ n → gg2 q ≠ 0 → turnG gg2 rt n x m0 m1' q = gg2 q ∨ nk (gg2 q) = x := fun q qn hq => by
    by_cases c1 : q = n0 (gg n)
    · cases hb : bz
      · left
        have e1 : dl (va_up gg2 n (cd x m0 m1')) rt (n0 (gg n)) = va_up gg2 n (cd x m0 m1') := by
          by_cases q2 : n0 (gg n) < 2
          · exact dl_0 (t4.nz q2)
          · refine dl_pos (t7 _ (Or.inl rfl) (fun w2 => ?_))
            have w3 : kd gg (n0 (gg n)) = x := by
              unfold kd at w2 ⊢
              rw [g2z] at w2
              exact w2
            rw [hbz.mpr w3] at hb
            exact absurd hb (by decide)
        rw [← et, dl_ne (by rw [c1]; exact hsz), e1, gup q qn]
      · right
        rw [c1]; exact (zx hb).2
    · by_cases c2 : q = n1 (gg n)
      · cases hb : bo
        · left
          rw [← et, o_no hb, dl_ne c1, gup q qn]
        · right
          rw [c2]; exact (ox hb).2
      · left
        rw [gTn q c1 c2, gup q qn]
  have ft4 : n < 2 ^ e := by omega
  have mlt : ∀ q : Nat, q < 16384 → q < 16384 := fun _ w => w
  obtain ⟨u5, s5, h5⟩ := y1.tis ts hle 25 t25 ft4 (S 14)
  refine ⟨u5, s5, _, h5.fT (by decide) rfl, ?_⟩
  rw [nI_cd0 lm0 lm1]
  obtain ⟨u6, s6, h6⟩ := h5.tis ts hle 26 t26 ft4 (cd 0 m0 m1')
  refine ⟨u6, s6, _, h6.fT (by decide) rfl, ?_⟩
  rw [nI_1]
  obtain ⟨u7, s7, h7⟩ := h6.sT (by decide) 2 13 (S4 13 + 1) (by decide) rfl rfl rfl rfl
  refine ⟨u7, s7, ?_⟩
  have e26 : va_up I4 25 (va_up (I4 25) n (S 14)) 26 = I4 26 := rfl
  rw [e26] at h7
  generalize hJ : va_up (va_up I4 25 (va_up (I4 25) n (S 14))) 26 (va_up (I4 26) n (cd 0 m0 m1')) = J at h7
  have K24 : J 24 = I4 24 := by rw [← hJ]; rfl
  have K25 : J 25 = va_up (I 25) n (S 14) := by rw [← hJ, J25.symm]; rfl
  have K26 : J 26 = va_up (I 26) n (cd 0 m0 m1') := by rw [← hJ, J26.symm]; rfl
  have Ko : ∀ q : Nat, q ≠ 25 → q ≠ 26 → J q = I4 q := fun q w1 w2 => by rw [← hJ, up_ne _ _ w2, up_ne _ _ w1]
  have T14 : va_up S4 13 (S4 13 + 1) 14 = S 14 := S414
  rw [J25, S414] at l3 l3' l2 l7
  rw [J26] at l4
  have rf5 : ∀ q : Nat, turnG gg2 rt n x m0 m1' q ≠ 0 → (nk (turnG gg2 rt n x m0 m1' q) = x ∨ (∃ j : Nat, j < i ∧ nk (turnG gg2 rt n x m0 m1' q) = r j) ∨ T q) → rf (turnG gg2 rt n x m0 m1') q = rf (va_up gg2 n (cd x m0 m1')) q := fun q hq htr => by
    rw [← et] at hq htr ⊢
    have w := dl_live hq
    rw [w] at hq htr
    have w2 := rfd _ (n1 (gg n)) q hc4 (Or.inr rfl) (Or.inr go4) (by
      cases hb : bo
      · exact Or.inl (o_no hb)
      · exact Or.inr (by rw [go4]; exact ox hb)) hq htr
    rw [w2]
    exact rf4 q hq htr
  refine hQ u7 _ J gg4t (turnG gg2 rt n x m0 m1') D2 (gone + gnc bz (I 24 (n0 (gg n))) + gnc bo (I 24 (n1 (gg n)))) _ _ h7 ⟨?_, hct2, t1, ⟨fun t tt => ?_, fun m hm hmT hmk => ?_⟩, fun m hm => ?_, fun m hm => ?_, fun m hm => ?_, fun m hm => ?_, fun m hm hmk => ?_, fun m hm htr => ?_, fun m hm hmd => ?_, ?_⟩ t2 (fun p hp hin => ⟨?_, (x1 _ hin).2.1⟩) tt1 (by rw [← et]; exact co.1) (by rw [← et]; exact co.2.1) ?_ ?_ ?_ ?_ ⟨fun q a b c d f w => ?_, fun s a b => ?_, ?_⟩ (by omega)
  · have t0 := tm2.i24 (J := J) (fun q hq => Ko q (by omega) (by omega))
    obtain ⟨d1, d2, d3, d4, d7, d8, d9, d10, d11, d12, d13, d14⟩ := t0
    exact ⟨d1, d2, d3, d4, d7, d8, d9, d10, d11, d12, d13, d14⟩
  · obtain ⟨q1, q2, q3⟩ := hT2.1 t tt.1
    have q4 : turnG gg2 rt n x m0 m1' t = gg2 t := by
      rcases gmk t tt.2 q1 with w | w
      · exact w
      · rw [q2, ey] at w; exact absurd w hxy
    rw [q4]
    exact ⟨q1, q2, q3⟩
  · have q := gT m hm
    rw [q] at hmk hm
    by_cases cn : m = n
    · subst cn
      rw [gnn, nkn, ey] at hmk
      exact absurd hmk.symm hxy
    · rw [gup m cn] at hmk hm
      exact hT2.2 m hm (fun w => hmT ⟨w, cn⟩) hmk
  · have q := gT m hm
    rw [q] at hm
    by_cases cn : m = n
    · rw [cn]; exact l1 n hg2
    · rw [gup m cn] at hm; exact l1 m hm
  · rw [K25, T14]
    by_cases cn : m = n
    · subst cn; exact Or.inr (up_eq _ _ _)
    · rw [up_ne _ _ cn]
      rcases l2 m hm with w | w
      · rcases gmk m cn (by rw [w]; exact hm) with w2 | w2
        · exact Or.inl (by rw [w2]; exact w)
        · exact Or.inr ((l3 m (by rw [w]; exact hm)).mpr w2)
      · exact Or.inr w
  · rw [K25, T14]
    have q := gT m hm
    rw [q] at hm ⊢
    by_cases cn : m = n
    · subst cn; rw [up_eq, gnn, nkn]; exact ⟨fun _ => rfl, fun _ => rfl⟩
    · rw [up_ne _ _ cn, gup m cn]
      rw [gup m cn] at hm
      exact l3 m hm
  · rw [K25, T14, up_ne _ _ (by have := hcg.ge hg; omega)]
    exact l3' m hm
  · rw [K26]
    have q := gT m hm
    rw [q] at hm hmk ⊢
    by_cases cn : m = n
    · subst cn
      rw [up_eq, gnn, n0_cd lm0 lm1, n0_cd lm0 lm1, n1_cd lm1, n1_cd lm1]
      exact ⟨rfl, rfl, cd_lt (by omega) lm0 lm1⟩
    · rw [up_ne _ _ cn, gup m cn]
      rw [gup m cn] at hm hmk
      exact l4 m hm hmk
  · rw [K24]
    have htr2 : nk (turnG gg2 rt n x m0 m1' m) = x ∨ (∃ j : Nat, j < i ∧ nk (turnG gg2 rt n x m0 m1' m) = r j) ∨ T m := by
      rcases htr with w | w | w
      · exact Or.inl w
      · exact Or.inr (Or.inl w)
      · exact Or.inr (Or.inr w.1)
    rw [rf5 m hm htr2]
    have q := gT m hm
    rw [q] at hm htr2
    by_cases cn : m = n
    · subst cn
      exact rf3 m hg2 (Or.inr (Or.inr hn))
    · rw [gup m cn] at hm htr2
      exact rf3 m hm htr2
  · have cn : m ≠ n := fun w => by
      subst w
      rw [Dn2] at hmd
      exact hmd hd
    have w := l6 m hm hmd
    rcases gmk m cn (by rw [w]; exact hm) with w2 | w2
    · rw [w2]; exact w
    · exact absurd (by rw [← w2]; exact hcg2.dp (by rw [w]; exact hm)) hmd
  · rw [T14, K25]
    refine ⟨l7.1, fun q => ?_⟩
    by_cases cn : q = n
    · subst cn; rw [up_eq]; exact Nat.le_refl _
    · rw [up_ne _ _ cn]; exact l7.2 q
  · rw [← et]
    exact dl_root hp (dl_root hp (in_up (cd_ne hm01) (x1 _ hin).1))
  · have a1 := cz.2.2.1
    have a2 := co.2.2.1
    show _ + S 9 = N + gone + S4 9
    omega
  · have a1 := cz.2.2.2
    have a2 := co.2.2.2
    omega
  · show S4 13 + 1 = S 13 + 1
    rw [S413]
  · show S4 9 ≤ S 9 + 2
    omega
  · rw [Ko q f w, y6 q a b c, v6 q a b c, up_ne _ _ d]
  · show va_up S4 13 (S4 13 + 1) s = S s
    rw [up_ne _ _ b, y7 s a, v7 s a]
  · show S 9 ≤ S4 9
    omega
end RS2
