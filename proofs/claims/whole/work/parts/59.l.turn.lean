/-! a node is turned -/
def cgc (g : Nat → Nat) (c : Nat) : Nat := if c < 2 then 2684354560 else g c
theorem cg_lt {g : Nat → Nat} {c : Nat} (h : 2 ≤ c) : cgc g c = g c := if_neg (by omega)
theorem nk_cg (g : Nat → Nat) (c : Nat) : nk (cgc g c) = kd g c := by
  unfold cgc kd
  by_cases h : c < 2
  · rw [if_pos h, if_pos h]; rfl
  · rw [if_neg h, if_neg h]
section TRN
variable {ad S : Nat → Nat} {I : Nat → Nat → Nat} {ln : Nat → Nat} {L : Nat → Nat → Int64} {E : (Nat → Prop) × (Nat → Option PE)} {z R : Nat × Nat} {u : PS} {e : Nat} {g rt xt : Nat → Nat} {D : Nat → Fn} {T : Nat → Prop} {W : Nat → Fn → Prop}
theorem DS.cong (ds : DS e g T S I ln) {S' : Nat → Nat} {I' : Nat → Nat → Nat} {ln' : Nat → Nat} (hI : ∀ j : Nat, 7 ≤ j → j < 24 → j ≠ 8 → j ≠ 13 → I' j = I j) (h8 : S' 8 = S 8) (h9 : S' 9 = S 9) (h10 : S' 10 = S 10) (hl : ∀ k : Nat, k < 10 → ln' (14 + k) = ln (14 + k)) : DS e g T S' I' ln' := by
  obtain ⟨d1, d2, d3, d4, d5, d6, d7, d8⟩ := ds
  have q7 := hI 7 (by decide) (by decide) (by decide) (by decide)
  have q9 := hI 9 (by decide) (by decide) (by decide) (by decide)
  have q10 := hI 10 (by decide) (by decide) (by decide) (by decide)
  have q11 := hI 11 (by decide) (by decide) (by decide) (by decide)
  have q12 := hI 12 (by decide) (by decide) (by decide) (by decide)
  unfold DS
  rw [q7, q9, q10, q11, q12, h8, h9, h10]
  exact ⟨d1, d2, d3, d4, d5, d6, d7.congr (fun _ => Iff.rfl) (fun k hk => ⟨hI _ (by omega) (by omega) (by omega) (by omega), rfl⟩) (fun _ _ => ⟨rfl, rfl⟩), fun k hk => by rw [hl k hk]; exact d8 k hk⟩
theorem DS.i8 (ds : DS e g T S I ln) (f : Nat → Nat) : DS e g T S (va_up I 8 f) ln := ds.cong (fun j _ _ q _ => up_ne _ _ q) rfl rfl rfl (fun _ _ => rfl)
theorem SH.two (sh : SH R S ln z e) : 64 ≤ 2 ^ e := Nat.pow_le_pow_right (n := 2) (i := 6) (by decide) sh.1
theorem DS.cg (ds : DS e g T S I ln) {c : Nat} (hc : IN g c) : I 7 c = cgc g c := by
  obtain ⟨d1, d2, d3, _⟩ := ds
  by_cases h : c < 2
  · rw [show cgc g c = 2684354560 from if_pos h]
    rcases (by omega : c = 0 ∨ c = 1) with rfl | rfl
    · exact d2.1
    · exact d2.2
  · rw [cg_lt (by omega)]
    rcases hc with hc | hc
    · omega
    · have := d3 c hc; exact d1 c this.1 this.2.1
theorem DS.cglt (ds : DS e g T S I ln) {c : Nat} (hc : IN g c) : cgc g c < 2 ^ 32 := by
  obtain ⟨d1, d2, d3, _⟩ := ds
  unfold cgc
  by_cases h : c < 2
  · rw [if_pos h]; decide
  · rw [if_neg h]
    rcases hc with hc | hc
    · omega
    · exact (d3 c hc).2.2
theorem DS.inlt (ds : DS e g T S I ln) (sh : SH R S ln z e) {c : Nat} (hc : IN g c) : c < 2 ^ e := by
  have := sh.two
  rcases hc with hc | hc
  · omega
  · have := ds.2.2.1 c hc
    have := ds.2.2.2.1
    omega
theorem sumTo_bd {f : Nat → Nat} {b : Nat} (h : ∀ m : Nat, f m ≤ b) : ∀ N : Nat, sumTo f N ≤ b * N := by
  intro N
  induction N with
  | zero => rw [sumTo]; omega
  | succ N ih => rw [sumTo, Nat.mul_succ]; have := h N; omega
theorem r1_le (w c : Nat) : r1 w c ≤ 2 := by
  unfold r1
  split
  · omega
  · split <;> split <;> omega
theorem rf_le (g : Nat → Nat) (c : Nat) : rf g c ≤ 32768 := by
  have := sumTo_bd (f := fun m => r1 (g m) c) (b := 2) (fun m => r1_le _ _) 16384
  unfold rf
  omega
theorem rr_le (rt : Nat → Nat) (c : Nat) : rr rt c ≤ 24 := by
  have := sumTo_bd (f := fun p => if rt p = c then 1 else 0) (b := 1) (fun m => by split <;> omega) 24
  unfold rr
  omega
theorem dl_0 {s : Nat} (h : g s = 0) : dl g rt s = g := by
  by_cases c : LED g rt s
  · exact dl_pos c
  · rw [dl_neg c]
    have := up_id g s
    rw [h] at this
    exact this
/-- one less leads to s, which goes if it was the last one -/
theorem q_N_drop (h : VC 69 ad S I ln L E z u) (sh : SH R S ln z e) (ds : DS e g T S I ln) (rc : RC e g rt xt (I 8)) (hc : CAN W g D) {s : Nat} (hs : IN g s) (hx : xt s = 1) (hxl : ∀ c : Nat, xt c ≤ 2) (hT : ¬ T s)
    {Q : PS → Prop} (hQ : ∀ (u' : PS) (S' : Nat → Nat) (I' : Nat → Nat → Nat), VC 69 ad S' I' ln L E z u' → SH R S' ln z e → DS e (dl g rt s) T S' I' ln → RC e (dl g rt s) rt (va_up xt s 0) (I' 8) → FN S I S' I' → S' 10 ≤ S 10 → S' 9 = S 9 → (∀ n : Nat, T n → g n ≠ 0 → I' 11 n = I 11 n) → (dl g rt s = g → S' 10 = S 10) → Q u') :
    (∃ z_23 : Int32, x_ia u (ad 8) (nI s) z_23 ∧ (∃ u_24 : PS, x_is u (ad 8) (nI s) (z_23 - (1 : Int32)) u_24 ∧ (∃ z_25 : Int32, x_ia u_24 (ad 8) (nI s) z_25 ∧ ((¬ z_25 = 0 → (Q u_24)) ∧ (z_25 = 0 → (∃ z_26 : Int32, x_ia u_24 (ad 8) ((((nI (cgc g s)).toUInt32 >>> ((14 : Int32).toUInt32 &&& Int32.toUInt32 31)).toInt32) &&& (16383 : Int32)) z_26 ∧ (∃ u_27 : PS, x_is u_24 (ad 8) ((((nI (cgc g s)).toUInt32 >>> ((14 : Int32).toUInt32 &&& Int32.toUInt32 31)).toInt32) &&& (16383 : Int32)) (z_26 - (1 : Int32)) u_27 ∧ (∃ z_28 : Int32, x_ia u_27 (ad 8) (nI (cgc g s) &&& (16383 : Int32)) z_28 ∧ (∃ u_29 : PS, x_is u_27 (ad 8) (nI (cgc g s) &&& (16383 : Int32)) (z_28 - (1 : Int32)) u_29 ∧ (x_ob u_29 (ad 4) 3 ∧ (p_N_forget (ad 4) (nI s) u_29 (fun (u_30 : PS) => (Q u_30))))))))))))) := by
  have hle := sh.le
  have hse := ds.inlt sh hs
  have e1 := rc s hse
  have alb := alw_b s
  have r1b := rf_le g s
  have r2b := rr_le rt s
  refine ⟨_, h.nia sh 8 n8 hse, ?_⟩
  rw [show (1 : Int32) = nI 1 from rfl, pk_sub (show 1 ≤ I 8 s by omega)]
  obtain ⟨u1, s1, h1⟩ := h.nis sh 8 n8 hse (I 8 s - 1)
  have v8 := h1.nia sh 8 n8 hse
  rw [up_eq, up_eq] at v8
  have DS1 : DS e g T S (va_up I 8 (va_up (I 8) s (I 8 s - 1))) ln := ds.i8 _
  have hlt : I 8 s - 1 < 2 ^ 32 := by split at e1 <;> omega
  have RC1 : RC e g rt (va_up xt s 0) (va_up (I 8) s (I 8 s - 1)) := fun c hcl => by
    by_cases q : c = s
    · subst q; rw [up_eq, up_eq]; omega
    · rw [up_ne _ _ q, up_ne _ _ q]; exact rc c hcl
  refine ⟨u1, s1, _, v8, fun w => ?_, fun w => ?_⟩
  · have w0 : I 8 s - 1 ≠ 0 := fun q => w (by rw [q]; rfl)
    have hdl : dl g rt s = g := by
      by_cases s2 : s < 2
      · exact dl_0 (hc.nz s2)
      · rw [if_neg s2] at e1
        exact dl_pos ((led_iff hc rt s).mpr (by omega))
    refine hQ u1 S _ h1 sh (by rw [hdl]; exact DS1) (by rw [hdl, up_eq]; exact RC1) ⟨fun i hi => up_ne _ _ (by omega), fun _ _ _ _ => rfl, rfl⟩ (Nat.le_refl _) rfl (fun _ _ _ => rfl) (fun _ => rfl)
  · have w0 : I 8 s - 1 = 0 := (nI_0I hlt).mp w
    have s2 : ¬ s < 2 := fun q => by rw [if_pos q] at e1; omega
    rw [if_neg s2] at e1
    have hnl : ¬ LED g rt s := fun q => by have := (led_iff hc rt s).mp q; omega
    have hgs : g s ≠ 0 := hs.resolve_left s2
    rw [cg_lt (by omega)]
    have hw32 := (ds.2.2.1 s hgs).2.2
    rw [nI_n0 hw32, nI_n1]
    have i0 := hc.i0 hgs
    have i1 := hc.i1 hgs
    have l0 := ds.inlt sh i0
    have l1 := ds.inlt sh i1
    have hne := hc.ne hgs
    have ns0 : n0 (g s) ≠ s := fun q => hnl (Or.inl ⟨s, hgs, Or.inl q⟩)
    have ns1 : n1 (g s) ≠ s := fun q => hnl (Or.inl ⟨s, hgs, Or.inr q⟩)
    have hup := fun c : Nat => rf_up g (hc.lt hgs) 0 c
    have r1v : ∀ c : Nat, r1 (g s) c = (if n0 (g s) = c then 1 else 0) + (if n1 (g s) = c then 1 else 0) := fun c => if_neg hgs
    have p0 : 1 ≤ I 8 (n0 (g s)) := by
      have a := rc _ l0
      have b := hup (n0 (g s))
      rw [r1v, r1_0, if_pos rfl] at b
      omega
    have p1 : 1 ≤ I 8 (n1 (g s)) := by
      have a := rc _ l1
      have b := hup (n1 (g s))
      rw [r1v, r1_0, if_pos (rfl : n1 (g s) = n1 (g s))] at b
      omega
    have a0 := h1.nia sh 8 n8 l0
    rw [up_eq, up_ne _ _ ns0] at a0
    refine ⟨_, a0, ?_⟩
    rw [pk_sub p0]
    obtain ⟨u2, s2', h2⟩ := h1.nis sh 8 n8 l0 (I 8 (n0 (g s)) - 1)
    rw [up_eq, bx_uu] at h2
    refine ⟨u2, s2', ?_⟩
    have a1 := h2.nia sh 8 n8 l1
    rw [up_eq, up_ne _ _ (Ne.symm hne), up_ne _ _ ns1] at a1
    refine ⟨_, a1, ?_⟩
    rw [pk_sub p1]
    obtain ⟨u3, s3, h3⟩ := h2.nis sh 8 n8 l1 (I 8 (n1 (g s)) - 1)
    rw [up_eq, bx_uu] at h3
    refine ⟨u3, s3, h3.obN (by decide), ?_⟩
    refine q_N_forget h3 sh (ds.i8 _) hgs hT (fun u' S' I' w1 w2 w3 w4 w5 w6 w7 w8 => ?_)
    rw [up_eq] at w4
    have hdl : dl g rt s = va_up g s 0 := dl_neg hnl
    refine hQ u' S' I' w1 (sh.s (w3.2.1 7 (by decide) (by decide) (by decide))) (by rw [hdl]; exact w2) ?_ ⟨fun i hi => (w3.1 i hi).trans (up_ne _ _ (by omega)), w3.2.1, w3.2.2⟩ (by omega) w6 w8 (fun q => ?_)
    · rw [hdl, w4]
      intro c hcl
      have b := hup c
      rw [r1v, r1_0] at b
      have a := rc c hcl
      by_cases q1 : c = n1 (g s)
      · subst q1
        rw [up_eq, up_ne xt _ ns1]
        rw [if_neg hne, if_pos rfl] at b
        omega
      · rw [up_ne _ _ q1]
        by_cases q0 : c = n0 (g s)
        · subst q0
          rw [up_eq, up_ne xt _ ns0]
          rw [if_pos rfl, if_neg (Ne.symm q1)] at b
          omega
        · rw [up_ne _ _ q0]
          rw [if_neg (Ne.symm q0), if_neg (Ne.symm q1)] at b
          by_cases q : c = s
          · subst q; rw [up_eq, up_eq, if_neg s2]; omega
          · rw [up_ne _ _ q, up_ne _ _ q]; omega
    · rw [hdl] at q
      have := congrFun q s
      rw [up_eq] at this
      exact absurd this.symm hgs
/-- a node that was on its way asks another input -/
theorem q_N_relist (h : VC 69 ad S I ln L E z u) (sh : SH R S ln z e) (ds : DS e g T S I ln) {n y a b : Nat} (hn : T n) (hg : g n ≠ 0) (hy : y < 10) (ha : a < 16384) (hb : b < 16384) (hab : a ≠ b)
    {Q : PS → Prop} (hQ : ∀ (u' : PS) (ad' : Nat → Nat) (I' : Nat → Nat → Nat) (ln' : Nat → Nat) (z' : Nat × Nat), VC 69 ad' S I' ln' L E z' u' → SH R S ln' z' e → DS e (va_up g n (cd y a b)) (fun m => T m ∧ m ≠ n) S I' ln' → I' 8 = I 8 → FN S I S I' → FA ad ln ad' ln' → I' 9 = va_up (I 9) y (I 9 y + 1) → (∀ m : Nat, m ≠ n → I' 11 m = I 11 m) → Q u') :
    ∃ u_17 : PS, x_is u (ad 7) (nI n) (nI (cd y a b)) u_17 ∧ (x_ob u_17 (ad 4) 3 ∧ (p_N_link (ad 4) (nI n) u_17 (fun (u_18 : PS) => (x_ob u_18 (ad 4) 3 ∧ (p_N_enlist (ad 4) (nI n) (nI y) u_18 (fun (u_19 : PS) => Q u_19)))))) := by
  have hle := sh.le
  obtain ⟨d1, d2, d3, d4, d5, d6, d7, d8⟩ := ds
  obtain ⟨f1, f2, f3⟩ := d3 n hg
  have hme : n < 2 ^ e := by omega
  have hcl : cd y a b < 2 ^ 32 := cd_lt (by omega) ha hb
  obtain ⟨u1, s1, h1⟩ := h.nis sh 7 n7 hme (cd y a b)
  refine ⟨u1, s1, h1.obN (by decide), q_N_link h1 sh hme (fun u2 h2 => ?_)⟩
  have x7 : va_up I 7 (va_up (I 7) n (cd y a b)) 7 n = cd y a b := by rw [up_eq, up_eq]
  have x11 : va_up I 7 (va_up (I 7) n (cd y a b)) 11 = I 11 := rfl
  have x12 : va_up I 7 (va_up (I 7) n (cd y a b)) 12 = I 12 := rfl
  rw [x7, x11, x12] at h2
  have y9 : va_up (va_up (va_up I 7 (va_up (I 7) n (cd y a b))) 11 (va_up (I 11) n (I 12 (hsx e (cd y a b))))) 12 (va_up (I 12) (hsx e (cd y a b)) n) 9 = I 9 := rfl
  have y10 : va_up (va_up (va_up I 7 (va_up (I 7) n (cd y a b))) 11 (va_up (I 11) n (I 12 (hsx e (cd y a b))))) 12 (va_up (I 12) (hsx e (cd y a b)) n) 10 = I 10 := rfl
  have yk : ∀ i : Nat, 13 ≤ i → va_up (va_up (va_up I 7 (va_up (I 7) n (cd y a b))) 11 (va_up (I 11) n (I 12 (hsx e (cd y a b))))) 12 (va_up (I 12) (hsx e (cd y a b)) n) i = I i := fun i hi => by
    rw [up_ne _ _ (by omega), up_ne _ _ (by omega), up_ne _ _ (by omega)]
  have hcn : I 9 y ≤ 16384 := MBR.le d7 (N := 16384) (fun m hm => by have := d3 m hm.1; omega) hy
  refine ⟨h2.obN (by decide), q_N_enlist h2 sh hme hy (by rw [y9]; exact d8 y hy) (by rw [y9]; exact hcn) (fun u3 ad' ln' z' row h3 r1 r2 r3 sh3 r4 r5 => ?_)⟩
  rw [y9, y10] at h3
  rw [y9] at r1 r2 r4
  generalize hI3 : va_up (va_up (va_up (va_up (va_up (va_up I 7 (va_up (I 7) n (cd y a b))) 11 (va_up (I 11) n (I 12 (hsx e (cd y a b))))) 12 (va_up (I 12) (hsx e (cd y a b)) n)) (14 + y) row) 10 (va_up (I 10) n (I 9 y))) 9 (va_up (I 9) y (I 9 y + 1)) = I3 at h3
  have a7 : ¬ (7 : Nat) = 14 + y := by omega
  have a8 : ¬ (8 : Nat) = 14 + y := by omega
  have a9 : ¬ (9 : Nat) = 14 + y := by omega
  have a10 : ¬ (10 : Nat) = 14 + y := by omega
  have a11 : ¬ (11 : Nat) = 14 + y := by omega
  have a12 : ¬ (12 : Nat) = 14 + y := by omega
  have a13 : ¬ (13 : Nat) = 14 + y := by omega
  have E7 : I3 7 = va_up (I 7) n (cd y a b) := by rw [← hI3]; simp [va_up, a7]
  have E8 : I3 8 = I 8 := by rw [← hI3]; simp [va_up, a8]
  have E9 : I3 9 = va_up (I 9) y (I 9 y + 1) := by rw [← hI3]; simp [va_up, a9]
  have E10 : I3 10 = va_up (I 10) n (I 9 y) := by rw [← hI3]; simp [va_up, a10]
  have E11 : I3 11 = va_up (I 11) n (I 12 (hsx e (cd y a b))) := by rw [← hI3]; simp [va_up, a11]
  have E12 : I3 12 = va_up (I 12) (hsx e (cd y a b)) n := by rw [← hI3]; simp [va_up, a12]
  have E13 : I3 13 = I 13 := by rw [← hI3]; simp [va_up, a13]
  have Ek : I3 (14 + y) = row := by rw [← hI3, up_ne _ _ (by omega), up_ne _ _ (by omega), up_eq]
  have Eo : ∀ i : Nat, i < 7 ∨ (14 ≤ i ∧ i ≠ 14 + y) → I3 i = I i := fun i hi => by
    rw [← hI3, up_ne _ _ (by omega), up_ne _ _ (by omega), up_ne _ _ (by omega), up_ne _ _ (by omega), up_ne _ _ (by omega), up_ne _ _ (by omega)]
  have hK : ∀ m : Nat, (va_up g n (cd y a b) m ≠ 0 ∧ ¬ (T m ∧ m ≠ n)) ↔ (g m ≠ 0 ∧ ¬ T m) ∨ m = n := fun m => by
    by_cases c : m = n
    · subst c; rw [up_eq]; exact ⟨fun _ => Or.inr rfl, fun _ => ⟨cd_ne hab, fun q => q.2 rfl⟩⟩
    · rw [up_ne _ _ c]; exact ⟨fun q => Or.inl ⟨q.1, fun w => q.2 ⟨w, c⟩⟩, fun q => ⟨(q.resolve_right c).1, fun w => (q.resolve_right c).2 w.1⟩⟩
  have hgm : ∀ m : Nat, g m ≠ 0 ∧ ¬ T m → va_up g n (cd y a b) m = g m := fun m hm => up_ne _ _ (fun q => hm.2 (q ▸ hn))
  have nK : ¬ (g n ≠ 0 ∧ ¬ T n) := fun q => q.2 hn
  refine hQ u3 ad' I3 ln' z' h3 sh3 ⟨fun m m2 m3 => ?_, ?_, fun m hm => ?_, d4, ?_, ?_, ?_, fun l hl => ?_⟩ E8 ⟨fun i hi => Eo i (by omega), fun _ _ _ _ => rfl, E13⟩ r3 E9 (fun m hm => by rw [E11, up_ne _ _ hm])
  · rw [E7]
    by_cases c : m = n
    · subst c; rw [up_eq, up_eq]
    · rw [up_ne _ _ c, up_ne _ _ c]; exact d1 m m2 m3
  · rw [E7, up_ne _ _ (by omega), up_ne _ _ (by omega)]; exact d2
  · by_cases c : m = n
    · subst c; rw [up_eq]; exact ⟨f1, f2, hcl⟩
    · rw [up_ne _ _ c] at hm ⊢; exact d3 m hm
  · rw [E11, E12]
    have := d5.link nK (by omega) hK hgm
    rw [up_eq] at this
    exact this
  · rw [E11]
    obtain ⟨l, l1, l2, l3, l4⟩ := d6
    refine ⟨l, chn_congr l _ (fun q hq => up_ne _ _ (fun w => ?_)) l1, l2, fun m => ?_, l4⟩
    · exact hg (by rw [← w]; exact ((l3 q).mp hq).2.2)
    · rw [l3 m]
      by_cases c : m = n
      · subst c; rw [up_eq]; exact ⟨fun q => absurd q.2.2 hg, fun q => absurd q.2.2 (cd_ne hab)⟩
      · rw [up_ne _ _ c]
  · rw [E9, E10]
    refine MBR.add d7 nK hy (by rw [up_eq]; exact nk_cd ha hb) hK hgm (fun i hi => ?_) ?_ (fun l hl hne => ?_)
    · rw [Ek, r1 i hi, yk _ (by omega)]
    · rw [Ek, r2]
    · rw [Eo _ (by omega)]
  · rw [E9]
    by_cases c : l = y
    · subst c; rw [up_eq]; exact r4
    · rw [up_ne _ _ c, r5 l hl c]; exact d8 l hl
end TRN
