/-! Diagrams: sink() -/
def dC (mt pl : Nat) (r : Nat → Nat) (n : Nat) : Nat := sumTo (fun j => if pl ≤ j ∧ mt.testBit (r j) = true then 1 else 0) n
def dH (mt pl : Nat) (r b : Nat → Nat) (n : Nat) : Nat := sumTo (fun j => if pl ≤ j ∧ mt.testBit (r j) = true then b j / 2 else 0) n
theorem dC_s (mt pl : Nat) (r : Nat → Nat) (n : Nat) : dC mt pl r (n + 1) = dC mt pl r n + (if pl ≤ n ∧ mt.testBit (r n) = true then 1 else 0) := rfl
theorem dH_s (mt pl : Nat) (r b : Nat → Nat) (n : Nat) : dH mt pl r b (n + 1) = dH mt pl r b n + (if pl ≤ n ∧ mt.testBit (r n) = true then b n / 2 else 0) := rfl
theorem dC_mono (mt pl : Nat) (r : Nat → Nat) (n d : Nat) : dC mt pl r n ≤ dC mt pl r (n + d) := by
  induction d with
  | zero => exact Nat.le_refl _
  | succ d ih => rw [show n + (d + 1) = n + d + 1 by omega, dC_s]; omega
theorem dH_mono (mt pl : Nat) (r b : Nat → Nat) (n d : Nat) : dH mt pl r b n ≤ dH mt pl r b (n + d) := by
  induction d with
  | zero => exact Nat.le_refl _
  | succ d ih => rw [show n + (d + 1) = n + d + 1 by omega, dH_s]; omega
theorem dC_0 (mt pl : Nat) (r : Nat → Nat) : ∀ n : Nat, n ≤ pl → dC mt pl r n = 0 := by
  intro n
  induction n with
  | zero => intro _; rfl
  | succ n ih => intro hn; rw [dC_s, ih (by omega), if_neg (by omega)]
theorem dH_0 (mt pl : Nat) (r b : Nat → Nat) : ∀ n : Nat, n ≤ pl → dH mt pl r b n = 0 := by
  intro n
  induction n with
  | zero => intro _; rfl
  | succ n ih => intro hn; rw [dH_s, ih (by omega), if_neg (by omega)]
section DSN
variable {L : Nat → Nat → Int64} {E : (Nat → Prop) × (Nat → Option PE)} {R : Nat × Nat} {o r : Nat → Nat} {F : Nat → Nat → Bool} {rt : Nat → Nat} {x pl c mt f0 : Nat} {g : Nat → Nat} {D0 : Nat → Fn} {ad0 S0 : Nat → Nat} {I0 : Nat → Nat → Nat} {ln0 : Nat → Nat}
theorem SKS.s {e : Nat} {gt gg S S' : Nat → Nat} {D : Nat → Fn} {N A : Nat} {I : Nat → Nat → Nat} {ln : Nat → Nat} (h : SKS e f0 g rt o r x pl c F D0 gt gg D N A S I ln) (hs : ∀ s : Nat, s ≠ 5 → s ≠ 6 → S' s = S s) : SKS e f0 g rt o r x pl c F D0 gt gg D N A S' I ln := by
  obtain ⟨a1, a2, a3, a4, a5, a6, a7, a8, a9, a10, a11, a12, a13⟩ := h
  have q13 := hs 13 (by decide) (by decide)
  unfold SKS
  rw [q13]
  exact ⟨a1.s (hs 8 (by decide) (by decide)) (hs 9 (by decide) (by decide)) (hs 10 (by decide) (by decide)), a2, a3, a4, a5, a6, a7, a8, a9, a10, a11, a12, a13⟩
theorem SKS.num {e : Nat} {gt gg S : Nat → Nat} {D : Nat → Fn} {N A : Nat} {I : Nat → Nat → Nat} {ln : Nat → Nat} (h : SKS e f0 g rt o r x pl c F D0 gt gg D N A S I ln) (hr : PR9 r x) (hx : x < 10) (hc : c < 10) : N = Wc F r x c ∧ A = lvX F r x c := by
  obtain ⟨a1, a2, a3, a4, a5, a6, a7, a8, a9, a10, a11, a12, a13⟩ := h
  have ho := insO_PO hr hx hc
  refine ⟨(a3.nw ho a11).symm, ?_⟩
  have := a3.nq ho (i := c) hc (N := A) (by rw [insO_at]; exact a12)
  rw [← this, lv_mid]
theorem SKS.skip {e : Nat} {gt gg S : Nat → Nat} {D : Nat → Fn} {N A : Nat} {I : Nat → Nat → Nat} {ln : Nat → Nat} (h : SKS e f0 g rt o r x pl c F D0 gt gg D N A S I ln) (hr : PR9 r x) (hx : x < 10) (hc : c < 9) (hn : ∀ p : Nat, p < 24 → ¬ (dep (fnOf (F p)) x ∧ dep (fnOf (F p)) (r c))) : SKS e f0 g rt o r x pl (c + 1) F D0 gt gg D N A S I ln := by
  obtain ⟨a1, a2, a3, a4, a5, a6, a7, a8, a9, a10, a11, a12, a13⟩ := h
  have ho : PO (insO r c x) := insO_PO hr hx (by omega)
  have hs := ins_sw r x hc
  have ex : insO r c x c = x := insO_at r c x
  have ey : insO r c x (c + 1) = r c := ins_s r x c
  refine ⟨a1, a2, ⟨hs.pass ho a3.1 (fun n hn2 hd => ?_), a3.2⟩, a4, fun n hn2 hk hj => a5 n hn2 hk (fun j q => hj j (by omega)), a6, fun n hn2 hl => a7 n hn2 ⟨hl.1, fun j q => hl.2 j (by omega)⟩, a8, fun i i1 i2 => a9 i (by omega) i2, a10, a11, a12, a13⟩
  obtain ⟨j, hj, ej⟩ := ho.sur (a3.1.k hn2)
  obtain ⟨p, hp, a, ea⟩ := a3.sound ho j n hj hn2 ej.symm
  rw [ea, ex, ey] at hd
  exact hn p hp ⟨fx_dep hd.1, fx_dep hd.2⟩
theorem W_dn (hr : PR9 r x) (hx : x < 10) (hm : MTS F x mt) : ∀ (d c : Nat), pl ≤ c → c + d ≤ 9 → Wc F r x c + lvX F r x (c + d) + dH mt pl r (lvB F r x) c ≤ Wc F r x (c + d) + lvX F r x c + dH mt pl r (lvB F r x) (c + d) := by
  intro d
  induction d with
  | zero => intro c _ _; exact Nat.le_refl _
  | succ d ih =>
    intro c hpc hc
    have h1 := ih c hpc (by omega)
    have h2 := wh_step (F := F) (r := r) (x := x) (c := c + d) (by omega)
    have hy := hr.1 (c + d) (by omega)
    rw [show c + (d + 1) = c + d + 1 by omega, dH_s]
    unfold Wc at h1 ⊢
    cases hb : mt.testBit (r (c + d))
    · have h3 := (lv_pass (F := F) hr (show c + d < 9 by omega) (fun p hp => hm.2 _ hy.1 hy.2 hb p hp)).1
      rw [if_neg (fun w => absurd w.2 (by decide))]
      omega
    · have h3 := lv_half (F := F) hr hx (show c + d < 9 by omega)
      rw [if_pos ⟨by omega, rfl⟩]
      omega
theorem W_none2 (hr : PR9 r x) (hm : MTS F x mt) : ∀ (d c : Nat), pl ≤ c → c + d ≤ 9 → dC mt pl r (c + d) = dC mt pl r c → Wc F r x (c + d) = Wc F r x c := by
  intro d
  induction d with
  | zero => intro c _ _ _; rfl
  | succ d ih =>
    intro c hpc hc h0
    have m1 := dC_mono mt pl r c d
    rw [show c + (d + 1) = c + d + 1 by omega, dC_s] at h0
    have hb : mt.testBit (r (c + d)) = false := by
      cases hb : mt.testBit (r (c + d))
      · rfl
      · rw [if_pos ⟨by omega, hb⟩] at h0; omega
    rw [show c + (d + 1) = c + d + 1 by omega, W_same hr hm (by omega) hb]
    exact ih c hpc (by omega) (by omega)
theorem B_sum (hr : PR9 r x) (hx : x < 10) : sumTo (lvB F r x) 9 ≤ 3324 := by
  have h1 := W_le (F := F) hr hx (show 0 < 10 by omega)
  unfold Wc wh at h1
  have key : ∀ M : Nat, sumTo (lvB F r x) M ≤ sumTo (qn (PR 0 24) F (insO r 0 x)) (M + 1) := by
    intro M
    induction M with
    | zero => exact Nat.zero_le _
    | succ M ih => rw [sumTo, sumTo, lv_hi (F := F) (r := r) (x := x) (c := 0) (j := M) (by omega)]; omega
  have k : sumTo (lvB F r x) 9 ≤ sumTo (qn (PR 0 24) F (insO r 0 x)) 10 := key 9
  omega
theorem dH_le (mt pl : Nat) (r b : Nat → Nat) (n : Nat) : dH mt pl r b n ≤ sumTo b n := by
  unfold dH
  exact sumTo_mono2 n (fun j _ => by split <;> omega)
/-- the first of the least up to c -/
def MI2 (s : Nat → Nat) (c lst bb : Nat) : Prop := lst = s bb ∧ bb ≤ c ∧ (∀ q : Nat, q ≤ c → lst ≤ s q) ∧ ∀ q : Nat, q < bb → lst < s q
theorem MI2.keep {s : Nat → Nat} {c lst bb : Nat} (h : MI2 s c lst bb) (hc : lst ≤ s (c + 1)) : MI2 s (c + 1) lst bb := by
  obtain ⟨h1, h2, h3, h4⟩ := h
  refine ⟨h1, by omega, fun q hq => ?_, h4⟩
  by_cases w : q = c + 1
  · rw [w]; exact hc
  · exact h3 q (by omega)
theorem MI2.step {s : Nat → Nat} {c lst bb : Nat} (h : MI2 s c lst bb) (hc : s (c + 1) < lst) : MI2 s (c + 1) (s (c + 1)) (c + 1) := by
  obtain ⟨h1, h2, h3, h4⟩ := h
  refine ⟨rfl, Nat.le_refl _, fun q hq => ?_, fun q hq => ?_⟩
  · by_cases w : q = c + 1
    · rw [w]; exact Nat.le_refl _
    · have := h3 q (by omega); omega
  · have := h3 q (by omega); omega
theorem MI2.all {s : Nat → Nat} {c lst bb : Nat} (h : MI2 s c lst bb) (hq : ∀ q : Nat, c < q → q ≤ 9 → lst ≤ s q) : c ≤ 9 → MI2 s 9 lst bb := by
  intro hc
  obtain ⟨h1, h2, h3, h4⟩ := h
  refine ⟨h1, by omega, fun q q2 => ?_, h4⟩
  by_cases w : q ≤ c
  · exact h3 q w
  · exact hq q (by omega) q2
def SB (L : Nat → Nat → Int64) (E : (Nat → Prop) × (Nat → Option PE)) (R : Nat × Nat) (o r : Nat → Nat) (F : Nat → Nat → Bool) (rt : Nat → Nat) (x pl c f0 : Nat) (g : Nat → Nat) (D0 : Nat → Fn) (ad S : Nat → Nat) (I : Nat → Nat → Nat) (ln : Nat → Nat) (z : Nat × Nat) (u : PS) (e : Nat) (gt gg : Nat → Nat) (D : Nat → Fn) : Prop :=
  VC 69 ad S I ln L E z u ∧ SH R S ln z e ∧ TSH ln e ∧ RC e g rt (fun _ => 0) (I 8) ∧ SKS e f0 g rt o r x pl c F D0 gt gg D (Wc F r x c) (lvX F r x c) S I ln
theorem q_D_sink_L117 (hst : ST o F g D0 rt) (ho : PO o) (hins : insO r pl x = o) (hr : PR9 r x) (hx : x < 10) (hpl : pl < 10) (hm : MTS F x mt) (hxa : ∃ p : Nat, p < 24 ∧ dep (fnOf (F p)) x) (l37 : ln0 37 = 10) (h37 : ∀ j : Nat, j < 9 → I0 37 j = r j) (h9 : ∀ j : Nat, pl ≤ j → j < 9 → I0 9 (r j) = lvB F r x j) {mk0 : Nat}
    {X : PS → Prop} (hX : ∀ (u' : PS) (lst bb c : Nat) (e' : Nat) (ad' S' : Nat → Nat) (I' : Nat → Nat → Nat) (ln' : Nat → Nat) (z' : Nat × Nat) (gt' gg' : Nat → Nat) (D' : Nat → Fn), SB L E R o r F rt x pl c f0 g D0 ad' S' I' ln' z' u' e' gt' gg' D' → S' 6 = lst → S' 5 = bb → MI2 (Wc F r x) 9 lst bb → FTB ad0 S0 I0 ln0 ad' S' I' ln' → S' 12 = f0 → S' 14 = mk0 → (∀ n : Nat, I' 25 n ≤ mk0) → X u') :
    ∀ (d c lst bb : Nat) (u : PS) (e : Nat) (ad S : Nat → Nat) (I : Nat → Nat → Nat) (ln : Nat → Nat) (z : Nat × Nat) (gt gg : Nat → Nat) (D : Nat → Fn), c + d = 9 → pl ≤ c → SB L E R o r F rt x pl c f0 g D0 ad S I ln z u e gt gg D → S 6 = lst → S 5 = bb → MI2 (Wc F r x) c lst bb → FTB ad0 S0 I0 ln0 ad S I ln → S 12 = f0 → S 14 = mk0 → (∀ n : Nat, I 25 n ≤ mk0) → S 9 ≤ 6400 + sumTo capJ (c + 1) → p_D_sink_L117 (ad0 2) (nI x) (nI mt) X (d + 1) (iZ ((dH mt pl r (lvB F r x) 9 : Int) - (dH mt pl r (lvB F r x) c : Int) - 1)) (nI (dC mt pl r 9 - dC mt pl r c)) (nI (Wc F r x c)) (nI c) u := by
  obtain ⟨p0, hp0, hd0⟩ := hxa
  intro d
  induction d with
  | zero =>
    intro c lst bb u e ad S I ln z gt gg D hc hpc hb h6 h5 hmin hf h12 h14 hmk hroom
    obtain rfl : c = 9 := by omega
    rw [p_D_sink_L117]
    have fin := hX u lst bb 9 e ad S I ln z gt gg D hb h6 h5 hmin hf h12 h14 hmk
    rw [Nat.sub_self]
    refine ⟨fun _ => fin, fun w => absurd ?_ w⟩
    exact Int32.le_refl _
  | succ d ih =>
    intro c lst bb u e ad S I ln z gt gg D hc hpc hb h6 h5 hmin hf h12 h14 hmk hroom
    have hb0 := hb
    obtain ⟨h, sh, ts, rc, rk⟩ := hb
    have E2 : ad 2 = ad0 2 := (hf.1 2 (by omega)).1
    have E37 : I 37 = I0 37 := (hf.1 37 (by omega)).2.2
    have l37' : ln 37 = 10 := by rw [(hf.1 37 (by omega)).2.1]; exact l37
    have E9 : I 9 = I0 9 := (hf.1 9 (by omega)).2.2
    have hy := hr.1 c (by omega)
    have wl := W_le (F := F) hr hx (show c < 10 by omega)
    have xl := X_le (F := F) hr hx (show c < 10 by omega)
    have bl := B_sum (F := F) hr hx
    have hl9 := dH_le mt pl r (lvB F r x) 9
    have hmo := dH_mono mt pl r (lvB F r x) c (9 - c)
    rw [show c + (9 - c) = 9 by omega] at hmo
    have lstl : lst ≤ 3324 := by
      have := hmin.2.2.1 c (Nat.le_refl _)
      omega
    have mc9 : dC mt pl r 9 ≤ 10 := by
      unfold dC
      have := sumTo_bd (f := fun j => if pl ≤ j ∧ mt.testBit (r j) = true then 1 else 0) (b := 1) (fun m => by split <;> omega) 9
      omega
    have mcm := dC_mono mt pl r c (9 - c)
    rw [show c + (9 - c) = 9 by omega] at mcm
    have hgo := MI2.all (s := Wc F r x) hmin
    rw [p_D_sink_L117, ← E2]
    refine pk_le (dC mt pl r 9 - dC mt pl r c) 0 (fun w => ?_) (fun hmc => ?_)
    · refine hX u lst bb c e ad S I ln z gt gg D hb0 h6 h5 (hgo (fun q q1 q2 => ?_) (by omega)) hf h12 h14 hmk
      have k1 := dC_mono mt pl r c (q - c)
      have k2 := dC_mono mt pl r q (9 - q)
      rw [show c + (q - c) = q by omega] at k1
      rw [show q + (9 - q) = 9 by omega] at k2
      have k3 := W_none2 (F := F) (pl := pl) hr hm (q - c) c hpc (by omega) (by rw [show c + (q - c) = q by omega]; omega)
      rw [show c + (q - c) = q by omega] at k3
      rw [k3]
      exact hmin.2.2.1 c (Nat.le_refl _)
    · refine pk_le 9 c (fun w => absurd w (by omega)) (fun _ => ?_)
      refine ⟨_, h.fD (by decide) rfl, h.obT (by decide), ?_⟩
      unfold p_T_asks
      have hA : S 13 = lvX F r x c := rk.2.2.2.2.2.2.2.2.2.2.2.2
      refine ⟨_, h.fT (by decide) rfl, _, h.fD (by decide) rfl, ?_⟩
      rw [h6, hA]
      have ecmp : (nI (Wc F r x c) - iZ ((dH mt pl r (lvB F r x) 9 : Int) - (dH mt pl r (lvB F r x) c : Int) - 1)) - nI (lvX F r x c) = iZ ((Wc F r x c : Int) - ((dH mt pl r (lvB F r x) 9 : Int) - (dH mt pl r (lvB F r x) c : Int) - 1) - (lvX F r x c : Int)) := by
        rw [iZ_n (Wc F r x c), iZ_n (lvX F r x c), iZ_sub, iZ_sub]
      rw [ecmp, iZ_n lst]
      have hiff := iZ_le (a := (lst : Int)) (b := (Wc F r x c : Int) - ((dH mt pl r (lvB F r x) 9 : Int) - (dH mt pl r (lvB F r x) c : Int) - 1) - (lvX F r x c : Int)) (by omega) (by omega) (by omega) (by omega)
      refine ⟨fun w => ?_, fun w => ?_⟩
      · have w := hiff.mp w
        refine hX u lst bb c e ad S I ln z gt gg D hb0 h6 h5 (hgo (fun q q1 q2 => ?_) (by omega)) hf h12 h14 hmk
        have k1 := W_dn (F := F) (pl := pl) hr hx hm (q - c) c hpc (by omega)
        rw [show c + (q - c) = q by omega] at k1
        have k2 := lvX_pos (F := F) hr hx q2 hp0 hd0
        have k3 := dH_mono mt pl r (lvB F r x) q (9 - q)
        rw [show q + (9 - q) = 9 by omega] at k3
        omega
      · have r37 := h.ia 37 (by decide) (ii (by decide)) (j := c) (by omega) (by omega)
        rw [E37, h37 c (by omega)] at r37
        refine ⟨_, h.fD (by decide) rfl, _, r37, ?_⟩
        rw [tb_mate hm.1 hy.1]
        have hcap : sumTo capJ (c + 1 + 1) = sumTo capJ (c + 1) + capJ (c + 1) := rfl
        cases hbt : mt.testBit (r c)
        · refine ⟨fun _ => ?_, fun w => absurd w (by decide)⟩
          have e1 : dH mt pl r (lvB F r x) (c + 1) = dH mt pl r (lvB F r x) c := by rw [dH_s, hbt, if_neg (fun w => absurd w.2 (by decide))]; rfl
          have e2 : dC mt pl r (c + 1) = dC mt pl r c := by rw [dC_s, hbt, if_neg (fun w => absurd w.2 (by decide))]; rfl
          have e3 := W_same (F := F) hr hm (show c < 9 by omega) hbt
          have hn : ∀ p : Nat, p < 24 → ¬ (dep (fnOf (F p)) x ∧ dep (fnOf (F p)) (r c)) := fun p hp => hm.2 _ hy.1 hy.2 hbt p hp
          have e4 := (lv_pass (F := F) hr (show c < 9 by omega) hn).2
          unfold p_D_sink_J222
          refine nm_e ?_
          rw [nI_1, ← e1, ← e2, ← e3, E2]
          refine ih (c + 1) lst bb u e ad S I ln z gt gg D (by omega) (by omega) ⟨h, sh, ts, rc, ?_⟩ h6 h5 (hmin.keep (by rw [e3]; exact hmin.2.2.1 c (Nat.le_refl _))) hf h12 h14 hmk (by omega)
          have := rk.skip hr hx (by omega) hn
          rw [← e3, e4] at this
          exact this
        · refine ⟨fun w => absurd rfl w, fun _ => ⟨_, h.fD (by decide) rfl, h.obT (by decide), ?_⟩⟩
          have ha : I 9 (r c) = lvB F r x c := by rw [E9]; exact h9 c hpc (by omega)
          have e1 : dH mt pl r (lvB F r x) (c + 1) = dH mt pl r (lvB F r x) c + lvB F r x c / 2 := by rw [dH_s, hbt, if_pos ⟨hpc, rfl⟩]
          have e2 : dC mt pl r (c + 1) = dC mt pl r c + 1 := by rw [dC_s, hbt, if_pos ⟨hpc, rfl⟩]
          have hmo1 := dH_mono mt pl r (lvB F r x) (c + 1) (9 - (c + 1))
          rw [show c + 1 + (9 - (c + 1)) = 9 by omega] at hmo1
          have mcm1 := dC_mono mt pl r (c + 1) (9 - (c + 1))
          rw [show c + 1 + (9 - (c + 1)) = 9 by omega] at mcm1
          have capb : sumTo capJ (c + 1) ≤ 3324 := by
            have := sumTo_mono2 (f := capJ) (f' := capJ) (c + 1) (fun _ _ => Nat.le_refl _)
            rcases (by omega : c = 0 ∨ c = 1 ∨ c = 2 ∨ c = 3 ∨ c = 4 ∨ c = 5 ∨ c = 6 ∨ c = 7 ∨ c = 8) with rfl | rfl | rfl | rfl | rfl | rfl | rfl | rfl | rfl <;> decide
          refine q_T_sinkBelow h sh ts rc hst ho hpl (by rw [← hins]; exact insO_at r pl x) (fun j hj => by rw [← hins]; exact ins_lt r x hj) hr hpc (show c < 9 by omega) rk (by omega) (fun u1 e1' ad1 S1 I1 ln1 z1 gt1 gg1 D1 N1 A1 ret q1 q2 q3 q4 q5 q6 q7 q8 q9 q10 q11 q12 => nm_e ?_)
          obtain ⟨n1', n2'⟩ := q5.num hr hx (show c + 1 < 10 by omega)
          subst n1'
          subst n2'
          rw [q6]
          have qf := hf.tr (FTB.of q7)
          have E21 : ad1 2 = ad 2 := (q7.1 2 (by omega)).1
          have l91 : ln1 9 = 10 := q2.2.2.1.2.2.1
          have I19 : I1 9 = I 9 := (q7.1 9 (by omega)).2.2
          have wl2 := W_le (F := F) hr hx (show c + 1 < 10 by omega)
          have xcap : lvX F r x (c + 1) ≤ capJ (c + 1) := by
            rw [← lv_mid (F := F) (r := r) (x := x) (c := c + 1)]
            exact qn_le (insO_PO hr hx (by omega)) (by omega)
          have lbB : lvB F r x c ≤ 3324 := by
            have := sumTo_mono2 (f := fun _ => 0) (f' := lvB F r x) 9 (fun _ _ => Nat.zero_le _)
            have k : ∀ M : Nat, c < M → lvB F r x c ≤ sumTo (lvB F r x) M := by
              intro M
              induction M with
              | zero => intro w; exact absurd w (by omega)
              | succ M ihM =>
                intro w
                rw [sumTo]
                by_cases w2 : c = M
                · subst w2; omega
                · have := ihM (by omega); omega
            have := k 9 (by omega)
            omega
          rw [← E21]
          refine ⟨_, q1.fD (by decide) rfl, q1.obN (by decide), q_N_asksFor q1 l91 hy.1 ⟨by decide, nm_e (nm_e ?_)⟩⟩
          have e5 : iZ ((dH mt pl r (lvB F r x) 9 : Int) - (dH mt pl r (lvB F r x) c : Int) - 1) - (nI (I1 9 (r c)) / (2 : Int32)) = iZ ((dH mt pl r (lvB F r x) 9 : Int) - (dH mt pl r (lvB F r x) (c + 1) : Int) - 1) := by
            rw [I19, ha, show (2 : Int32) = nI 2 from rfl, pk_div (by omega) (by decide) (by decide), iZ_n, iZ_sub]
            congr 1
            omega
          have e6 : nI (dC mt pl r 9 - dC mt pl r c) + (-1 : Int32) = nI (dC mt pl r 9 - dC mt pl r (c + 1)) := by
            rw [show dC mt pl r 9 - dC mt pl r c = dC mt pl r 9 - dC mt pl r (c + 1) + 1 by omega]
            exact nI_dec _
          rw [e5, e6]
          have S16 : S1 6 = lst := by rw [q7.2.1 6 (by decide) (by decide) (by decide) (by decide) (by decide)]; exact h6
          have S15 : S1 5 = bb := by rw [q7.2.1 5 (by decide) (by decide) (by decide) (by decide) (by decide)]; exact h5
          have hmk1 : ∀ n : Nat, I1 25 n ≤ mk0 := fun n => by
            rcases q12 n with w | w
            · rw [w]; exact hmk n
            · rw [w]; omega
          refine ⟨_, q1.fD (by decide) rfl, ?_⟩
          rw [S16]
          refine pk_le lst (Wc F r x (c + 1)) (fun w2 => ?_) (fun w2 => ?_)
          · unfold p_D_sink_J222
            refine nm_e ?_
            rw [nI_1, E21, E2]
            exact ih (c + 1) lst bb u1 e1' ad1 S1 I1 ln1 z1 gt1 gg1 D1 (by omega) (by omega) ⟨q1, q2, q3, q4, q5⟩ S16 S15 (hmin.keep w2) qf (by rw [q10]; exact h12) (by rw [q11]; exact h14) hmk1 (by omega)
          · obtain ⟨u2, s2, v2⟩ := q1.sD (by decide) 12 6 (Wc F r x (c + 1)) (by decide) rfl rfl rfl rfl
            rw [nI_1]
            obtain ⟨u3, s3, v3⟩ := v2.sD (by decide) 11 5 (c + 1) (by decide) rfl rfl rfl rfl
            refine ⟨u2, s2, u3, s3, ?_⟩
            unfold p_D_sink_J222
            refine nm_e ?_
            rw [nI_1, E21, E2]
            have hss : ∀ s : Nat, s ≠ 5 → s ≠ 6 → va_up (va_up S1 6 (Wc F r x (c + 1))) 5 (c + 1) s = S1 s := fun s a b => by rw [up_ne _ _ a, up_ne _ _ b]
            exact ih (c + 1) (Wc F r x (c + 1)) (c + 1) u3 e1' ad1 _ I1 ln1 z1 gt1 gg1 D1 (by omega) (by omega) ⟨v3, q2.s rfl, q3, q4, q5.s hss⟩ (by rw [up_ne _ _ (by decide), up_eq]) (up_eq _ _ _) (hmin.step w2) (qf.tr ⟨fun _ _ => ⟨rfl, rfl, rfl⟩, fun s a b _ _ _ _ _ => hss s a b, fun _ hb => hb⟩) (by rw [hss 12 (by decide) (by decide), q10]; exact h12) (by rw [hss 14 (by decide) (by decide), q11]; exact h14) hmk1 (by rw [hss 9 (by decide) (by decide)]; omega)
end DSN
