/-! Diagrams: rise(), the loop -/
section DR3
variable {L : Nat → Nat → Int64} {E : (Nat → Prop) × (Nat → Option PE)} {R : Nat × Nat} {o r : Nat → Nat} {F : Nat → Nat → Bool} {rt : Nat → Nat} {x pl mt : Nat} {g : Nat → Nat} {D0 : Nat → Fn} {f0 : Nat} {ad0 S0 : Nat → Nat} {I0 : Nat → Nat → Nat} {ln0 : Nat → Nat}
/-- what a trial leaves, but for the best place -/
def FTB (ad S : Nat → Nat) (I : Nat → Nat → Nat) (ln ad' S' : Nat → Nat) (I' : Nat → Nat → Nat) (ln' : Nat → Nat) : Prop := (∀ i : Nat, i < 7 ∨ i = 9 ∨ (14 ≤ i ∧ i < 24) ∨ 30 ≤ i → ad' i = ad i ∧ ln' i = ln i ∧ I' i = I i) ∧ (∀ s : Nat, s ≠ 5 → s ≠ 6 → s ≠ 7 → s ≠ 9 → s ≠ 12 → s ≠ 13 → s ≠ 14 → S' s = S s) ∧ (∀ b : Nat, (∀ n : Nat, I 13 n ≤ b) → ∀ n : Nat, I' 13 n ≤ b)
theorem FTB.of {ad S : Nat → Nat} {I : Nat → Nat → Nat} {ln ad' S' : Nat → Nat} {I' : Nat → Nat → Nat} {ln' : Nat → Nat} (h : FTR ad S I ln ad' S' I' ln') : FTB ad S I ln ad' S' I' ln' := ⟨h.1, fun s _ _ a b c d q => h.2.1 s a b c d q, h.2.2⟩
theorem FTB.tr {ad S : Nat → Nat} {I : Nat → Nat → Nat} {ln ad' S' : Nat → Nat} {I' : Nat → Nat → Nat} {ln' ad'' S'' : Nat → Nat} {I'' : Nat → Nat → Nat} {ln'' : Nat → Nat} (h : FTB ad S I ln ad' S' I' ln') (k : FTB ad' S' I' ln' ad'' S'' I'' ln'') : FTB ad S I ln ad'' S'' I'' ln'' :=
  ⟨fun i hi => ⟨(k.1 i hi).1.trans (h.1 i hi).1, (k.1 i hi).2.1.trans (h.1 i hi).2.1, (k.1 i hi).2.2.trans (h.1 i hi).2.2⟩, fun s a b c d e f q => (k.2.1 s a b c d e f q).trans (h.2.1 s a b c d e f q), fun b hb => k.2.2 b (h.2.2 b hb)⟩
theorem MIN.step {s : Nat → Nat} {c pl lst bb : Nat} (h : MIN s (c + 1) pl lst bb) (hc : s c ≤ lst) (hpl : c ≤ pl) : MIN s c pl (s c) c := by
  obtain ⟨h1, h2, h3, h4, h5⟩ := h
  refine ⟨rfl, Nat.le_refl _, hpl, fun q q1 q2 => ?_, fun q q1 q2 => absurd q2 (by omega)⟩
  by_cases w : q = c
  · rw [w]; exact Nat.le_refl _
  · exact Nat.le_trans hc (h4 q (by omega) q2)
theorem MIN.keep {s : Nat → Nat} {c pl lst bb : Nat} (h : MIN s (c + 1) pl lst bb) (hc : lst < s c) : MIN s c pl lst bb := by
  obtain ⟨h1, h2, h3, h4, h5⟩ := h
  refine ⟨h1, by omega, h3, fun q q1 q2 => ?_, fun q q1 q2 => ?_⟩
  · by_cases w : q = c
    · rw [w]; omega
    · exact h4 q (by omega) q2
  · by_cases w : q = c
    · rw [w]; exact hc
    · exact h5 q (by omega) q2
theorem q_D_rise_L86 (hst : ST o F g D0 rt) (ho : PO o) (hins : insO r pl x = o) (hr : PR9 r x) (hx : x < 10) (hpl : pl < 10) (hm : MTS F x mt) (ht : MTT F mt) (hxa : ∃ p : Nat, p < 24 ∧ dep (fnOf (F p)) x) (l37 : ln0 37 = 10) (h37 : ∀ j : Nat, j < 9 → I0 37 j = r j) (h9 : ∀ j : Nat, j < pl → I0 9 (r j) = lvA F r j) (hN0 : ∀ j : Nat, j < pl → mt.testBit (r j) = true → 1 ≤ lvA F r j)
    {X : Int32 → Int32 → PS → Prop} (hX : ∀ (u' : PS) (c lst bb : Nat) (e' : Nat) (ad' S' : Nat → Nat) (I' : Nat → Nat → Nat) (ln' : Nat → Nat) (z' : Nat × Nat) (gt' gg' : Nat → Nat) (D' : Nat → Fn), c ≤ pl → RB L E R o r F rt x c f0 g D0 ad' S' I' ln' z' u' e' gt' gg' D' → S' 6 = lst → S' 5 = bb → MIN (Wc F r x) c pl lst bb → (mC mt r c = 0 ∨ ∀ q : Nat, q < c → lst < Wc F r x q) → FTB ad0 S0 I0 ln0 ad' S' I' ln' → S' 12 = f0 → S' 14 = S0 14 → X (nI (mC mt r c)) (nI (Wc F r x c)) u') :
    ∀ (c lst bb : Nat) (u : PS) (e : Nat) (ad S : Nat → Nat) (I : Nat → Nat → Nat) (ln : Nat → Nat) (z : Nat × Nat) (gt gg : Nat → Nat) (D : Nat → Fn), c ≤ pl → RB L E R o r F rt x c f0 g D0 ad S I ln z u e gt gg D → S 6 = lst → S 5 = bb → MIN (Wc F r x) c pl lst bb → FTB ad0 S0 I0 ln0 ad S I ln → S 12 = f0 → S 14 = S0 14 → S 9 + 2 * sumTo (lvA F r) c ≤ 13048 → p_D_rise_L86 (ad0 2) (nI mt) X (c + 1) (iZ ((mS' mt r (lvA F r) c : Int) - 1)) (nI (mC mt r c)) (nI (Wc F r x c)) (nI c + (-1)) u := by
  obtain ⟨p0, hp0, hd0⟩ := hxa
  intro c
  induction c with
  | zero =>
    intro lst bb u e ad S I ln z gt gg D hc hb h6 h5 hmin hf h12 h14 hroom
    rw [p_D_rise_L86]
    refine ⟨fun _ => hX u 0 lst bb e ad S I ln z gt gg D hc hb h6 h5 hmin (Or.inl rfl) hf h12 h14, fun w => absurd ?_ w⟩
    show nI 0 ≤ 0
    exact Int32.le_refl _
  | succ c ih =>
    intro lst bb u e ad S I ln z gt gg D hc hb h6 h5 hmin hf h12 h14 hroom
    have hb0 := hb
    obtain ⟨h, sh, ts, rc, rk⟩ := hb
    have E2 : ad 2 = ad0 2 := (hf.1 2 (by omega)).1
    have E37 : I 37 = I0 37 := (hf.1 37 (by omega)).2.2
    have l37' : ln 37 = 10 := by rw [(hf.1 37 (by omega)).2.1]; exact l37
    have E9 : I 9 = I0 9 := (hf.1 9 (by omega)).2.2
    have l9 : ln 9 = 10 := sh.2.2.1.2.2.1
    have ed : nI (c + 1) + (-1 : Int32) = nI c := nI_dec c
    have hy := hr.1 c (by omega)
    have wl := W_le (F := F) hr hx (show c + 1 < 10 by omega)
    have xl := X_le (F := F) hr hx (show c + 1 < 10 by omega)
    have sl := A_sum (F := F) hr hx (show c + 1 < 10 by omega)
    have ml := mS_le mt r (lvA F r) (c + 1)
    have lstl : lst ≤ 3324 := by
      have := hmin.2.2.2.1 (c + 1) (Nat.le_refl _) hc
      omega
    have mc9 : mC mt r (c + 1) ≤ 10 := by
      unfold mC
      have := sumTo_bd (f := fun j => if mt.testBit (r j) then 1 else 0) (b := 1) (fun m => by split <;> omega) (c + 1)
      omega
    rw [p_D_rise_L86, ← E2, ed]
    refine pk_le (mC mt r (c + 1)) 0 (fun w => hX u (c + 1) lst bb e ad S I ln z gt gg D hc hb0 h6 h5 hmin (Or.inl (by omega)) hf h12 h14) (fun hmc => ?_)
    refine ⟨fun w => absurd w (Int32.not_lt.mpr (nI_le (a := 0) (b := c) (by omega) (by omega))), fun _ => ?_⟩
    refine ⟨_, h.fD (by decide) rfl, h.obT (by decide), ?_⟩
    unfold p_T_asks
    have hA : S 13 = lvX F r x (c + 1) := rk.2.2.2.2.2.2.2.2.2.2.2.2.2.2
    refine ⟨_, h.fT (by decide) rfl, _, h.fD (by decide) rfl, ?_⟩
    rw [h6, hA]
    have ecmp : (nI (Wc F r x (c + 1)) - iZ ((mS' mt r (lvA F r) (c + 1) : Int) - 1)) - nI (lvX F r x (c + 1)) = iZ ((Wc F r x (c + 1) : Int) - ((mS' mt r (lvA F r) (c + 1) : Int) - 1) - (lvX F r x (c + 1) : Int)) := by
      rw [iZ_n (Wc F r x (c + 1)), iZ_n (lvX F r x (c + 1)), iZ_sub, iZ_sub]
    rw [ecmp, iZ_n lst]
    have hiff := iZ_lt (a := (lst : Int)) (b := (Wc F r x (c + 1) : Int) - ((mS' mt r (lvA F r) (c + 1) : Int) - 1) - (lvX F r x (c + 1) : Int)) (by omega) (by omega) (by omega) (by omega)
    refine ⟨fun w => ?_, fun w => ?_⟩
    · have w := hiff.mp w
      refine hX u (c + 1) lst bb e ad S I ln z gt gg D hc hb0 h6 h5 hmin (Or.inr (fun q hq => ?_)) hf h12 h14
      have k1 := W_up (F := F) hr hx hm ht (c + 1 - q) q (by omega)
      rw [show q + (c + 1 - q) = c + 1 by omega] at k1
      have k2 := lvX_pos (F := F) hr hx (show q ≤ 9 by omega) hp0 hd0
      omega
    · have r37 := h.ia 37 (by decide) (ii (by decide)) (j := c) (by omega) (by omega)
      rw [E37, h37 c (by omega)] at r37
      refine ⟨_, h.fD (by decide) rfl, _, r37, ?_⟩
      rw [tb_mate hm.1 hy.1]
      -- the size there
      have fin : ∀ (u1 : PS) (e1 : Nat) (ad1 S1 : Nat → Nat) (I1 : Nat → Nat → Nat) (ln1 : Nat → Nat) (z1 : Nat × Nat) (gt1 gg1 : Nat → Nat) (D1 : Nat → Fn), RB L E R o r F rt x c f0 g D0 ad1 S1 I1 ln1 z1 u1 e1 gt1 gg1 D1 → S1 6 = lst → S1 5 = bb → FTB ad0 S0 I0 ln0 ad1 S1 I1 ln1 → S1 12 = f0 → S1 14 = S0 14 → S1 9 + 2 * sumTo (lvA F r) c ≤ 13048 → p_D_rise_J165 (p_D_rise_L86 (ad0 2) (nI mt) X (c + 1)) X (ad0 2) (nI mt) (iZ ((mS' mt r (lvA F r) c : Int) - 1)) (nI (mC mt r c)) (nI (Wc F r x c)) (nI c) u1 := by
        intro u1 e1 ad1 S1 I1 ln1 z1 gt1 gg1 D1 q1 q6 q5 qf q12 q14 qroom
        have E21 : ad1 2 = ad0 2 := (qf.1 2 (by omega)).1
        obtain ⟨v1, v2, v3, v4, v5⟩ := id q1
        have wl2 := W_le (F := F) hr hx (show c < 10 by omega)
        unfold p_D_rise_J165
        rw [← E21]
        refine ⟨_, v1.fD (by decide) rfl, ?_⟩
        rw [q6]
        refine pk_lt lst (Wc F r x c) (fun w => ?_) (fun w => ?_)
        · unfold p_D_rise_J186
          refine nm_e ?_
          rw [E21]
          exact ih lst bb u1 e1 ad1 S1 I1 ln1 z1 gt1 gg1 D1 (by omega) q1 q6 q5 (hmin.keep w) qf q12 q14 qroom
        · obtain ⟨u2, s2, h2⟩ := v1.sD (by decide) 12 6 (Wc F r x c) (by decide) rfl rfl rfl rfl
          obtain ⟨u3, s3, h3⟩ := h2.sD (by decide) 11 5 c (by decide) rfl rfl rfl rfl
          refine ⟨u2, s2, u3, s3, ?_⟩
          unfold p_D_rise_J186
          refine nm_e ?_
          rw [E21]
          have hss : ∀ s : Nat, s ≠ 5 → s ≠ 6 → va_up (va_up S1 6 (Wc F r x c)) 5 c s = S1 s := fun s a b => by rw [up_ne _ _ a, up_ne _ _ b]
          refine ih (Wc F r x c) c u3 e1 ad1 _ I1 ln1 z1 gt1 gg1 D1 (by omega) ⟨h3, v2.s rfl, v3, v4, v5.s hss⟩ (by rw [up_ne _ _ (by decide), up_eq]) (up_eq _ _ _) (hmin.step w (by omega)) (qf.tr ⟨fun _ _ => ⟨rfl, rfl, rfl⟩, fun s a b _ _ _ _ _ => hss s a b, fun _ hb => hb⟩) (by rw [hss 12 (by decide) (by decide)]; exact q12) (by rw [hss 14 (by decide) (by decide)]; exact q14) (by rw [hss 9 (by decide) (by decide)]; exact qroom)
      have hsum : sumTo (lvA F r) (c + 1) = sumTo (lvA F r) c + lvA F r c := rfl
      cases hbt : mt.testBit (r c)
      · refine ⟨fun _ => ?_, fun w => absurd w (by decide)⟩
        have e1 : mS' mt r (lvA F r) (c + 1) = mS' mt r (lvA F r) c := by rw [mS_s, hbt]; rfl
        have e2 : mC mt r (c + 1) = mC mt r c := by rw [mC_s, hbt]; rfl
        have e3 := W_same (F := F) hr hm (show c < 9 by omega) hbt
        have hn : ∀ p : Nat, p < 24 → ¬ (dep (fnOf (F p)) x ∧ dep (fnOf (F p)) (r c)) := fun p hp => hm.2 _ hy.1 hy.2 hbt p hp
        have e4 := (lv_pass (F := F) hr (show c < 9 by omega) hn).2
        rw [e1, e2, e3, E2]
        refine fin u e ad S I ln z gt gg D ⟨h, sh, ts, rc, ?_⟩ h6 h5 hf h12 h14 (by omega)
        have := rk.skip hr hx (by omega) hn
        rw [e3, ← e4] at this
        exact this
      · refine ⟨fun w => absurd rfl w, fun _ => ⟨_, h.fD (by decide) rfl, h.obT (by decide), ?_⟩⟩
        have ha : I 9 (r c) = lvA F r c := by rw [E9]; exact h9 c (by omega)
        have hp1 := hN0 c (by omega) hbt
        have e1 : mS' mt r (lvA F r) (c + 1) = mS' mt r (lvA F r) c + (lvA F r c - 1) := by rw [mS_s, hbt]; rfl
        have e2 : mC mt r (c + 1) = mC mt r c + 1 := by rw [mC_s, hbt]; rfl
        refine q_T_riseAbove h sh ts rc hst ho hr hx (show c < 9 by omega) (fun j hj => by rw [← hins]; exact ins_lt r x (by omega)) rk (by rw [ha]; omega) (fun u1 e1' ad1 S1 I1 ln1 z1 gt1 gg1 D1 N1 A1 ret q1 q2 q3 q4 q5 q6 q7 q8 q9 q10 q11 => nm_e ?_)
        obtain ⟨n1', n2'⟩ := q5.num hr hx (show c < 10 by omega)
        subst n1'
        subst n2'
        rw [q6]
        have qf := hf.tr (FTB.of q7)
        have E21 : ad1 2 = ad 2 := (q7.1 2 (by omega)).1
        have l91 : ln1 9 = 10 := q2.2.2.1.2.2.1
        have I19 : I1 9 = I 9 := (q7.1 9 (by omega)).2.2
        rw [← E21]
        refine ⟨_, q1.fD (by decide) rfl, q1.obN (by decide), q_N_asksFor q1 l91 hy.1 (nm_e (nm_e ?_))⟩
        have e5 : iZ ((mS' mt r (lvA F r) (c + 1) : Int) - 1) - (nI (I1 9 (r c)) - (1 : Int32)) = iZ ((mS' mt r (lvA F r) c : Int) - 1) := by
          rw [I19, ha, iZ_n, iZ_1, iZ_sub, iZ_sub]
          congr 1
          omega
        have e6 : nI (mC mt r (c + 1)) + (-1 : Int32) = nI (mC mt r c) := by rw [e2]; exact nI_dec _
        rw [e5, e6, E21, E2]
        refine fin u1 e1' ad1 S1 I1 ln1 z1 gt1 gg1 D1 ⟨q1, q2, q3, q4, q5⟩ ?_ ?_ qf (by rw [q10]; exact h12) (by rw [q11]; exact h14) (by rw [ha] at q9; omega)
        · rw [q7.2.1 6 (by decide) (by decide) (by decide) (by decide) (by decide)]; exact h6
        · rw [q7.2.1 5 (by decide) (by decide) (by decide) (by decide) (by decide)]; exact h5
end DR3
