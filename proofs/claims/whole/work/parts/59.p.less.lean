/-! leadNoMore() -/
section LNM
variable {L : Nat → Nat → Int64} {E : (Nat → Prop) × (Nat → Option PE)} {R : Nat × Nat} {o : Nat → Nat} {rt ad : Nat → Nat} {ln : Nat → Nat} {z : Nat × Nat} {e : Nat} {D : Nat → Fn}
/-- a next node asks a later input -/
theorem CAN.later {g : Nat → Nat} (h : CAN (Wo o) g D) (ho : PO o) {n i c : Nat} (hn : g n ≠ 0) (hi : i < 10) (hk : nk (g n) = o i) (hch : n0 (g n) = c ∨ n1 (g n) = c) (hc : g c ≠ 0) : ∃ l : Nat, l < 10 ∧ nk (g c) = o l ∧ i < l := by
  obtain ⟨l, hl, el, h2⟩ := h.w hc
  refine ⟨l, hl, el.symm, ?_⟩
  have hb : ∀ j : Nat, j < i → ¬ dep (D n) (o j) := by
    obtain ⟨a, ha, ea, h3⟩ := h.w hn
    have : a = i := ho.2 a i ha hi (ea.trans hk)
    subst this
    exact h3
  have hcc : ∃ b : Bool, D c = cof (o i) b (D n) := by
    rcases hch with q | q
    · exact ⟨false, by rw [← q, ← h.c0 hn, hk]⟩
    · exact ⟨true, by rw [← q, ← h.c1 hn, hk]⟩
  obtain ⟨b, eb⟩ := hcc
  have hd : dep (D c) (o l) := by rw [el]; exact h.dp hc
  have h4 : ¬ l < i := fun q => hb l q (cof_dep (by rw [← eb]; exact hd))
  have h5 : l ≠ i := fun q => by rw [eb, q] at hd; exact not_dep_cof _ _ _ hd
  omega
theorem sumTo_mono {f f' : Nat → Nat} (h : ∀ m : Nat, f m ≤ f' m) : ∀ N : Nat, sumTo f N ≤ sumTo f' N := by
  intro N
  induction N with
  | zero => exact Nat.le_refl _
  | succ N ih => rw [sumTo, sumTo]; have := h N; omega
theorem rf_mono {g g' : Nat → Nat} (h : ∀ m : Nat, g' m ≠ 0 → g' m = g m) (c : Nat) : rf g' c ≤ rf g c := by
  refine sumTo_mono (fun m => ?_) 16384
  by_cases q : g' m = 0
  · rw [q, r1_0]; omega
  · rw [h m q]; omega
theorem q_N_less (ho : PO o) : ∀ (d f n : Nat) (xt g S : Nat → Nat) (I : Nat → Nat → Nat) (u : PS) (Q : PS → Prop), d + 1 ≤ f → VC 69 ad S I ln L E z u → SH R S ln z e → DS e g (fun _ => False) S I ln → RC e g rt xt (I 8) → CAN (Wo o) g D → IN g n → 1 ≤ xt n → (∀ c : Nat, xt c + 2 * d ≤ 1000) → (g n ≠ 0 → ∃ i : Nat, i < 10 ∧ nk (g n) = o i ∧ 10 ≤ i + d) → (∀ m : Nat, g m ≠ 0 → 0 < rf g m + rr rt m + xt m) →
    (∀ (u' : PS) (S' : Nat → Nat) (I' : Nat → Nat → Nat) (g' : Nat → Nat), VC 69 ad S' I' ln L E z u' → SH R S' ln z e → DS e g' (fun _ => False) S' I' ln → RC e g' rt (va_up xt n (xt n - 1)) (I' 8) → CAN (Wo o) g' D → (∀ m : Nat, g' m ≠ 0 → g' m = g m) → (∀ m : Nat, g' m ≠ 0 → 0 < rf g' m + rr rt m + va_up xt n (xt n - 1) m) → (∀ m : Nat, IN g m → IN g' m ∨ rf g' m + rr rt m + va_up xt n (xt n - 1) m = 0) → FN S I S' I' → S' 9 = S 9 → S' 10 ≤ S 10 → Q u') → p_N_leave f (ad 4) (nI n) (nI d) u Q := by
  intro d
  induction d with
  | zero =>
    intro f n xt g S I u Q hf h sh ds rc hc hn hx hxl hdp hpos hQ
    obtain ⟨f', rfl⟩ : ∃ f', f = f' + 1 := ⟨f - 1, by omega⟩
    have hle := sh.le
    have hse := ds.inlt sh hn
    have e1 := rc n hse
    have alb := alw_b n
    have b1 := rf_le g n
    have b2 := rr_le rt n
    have b3 := hxl n
    rw [p_N_leave]
    refine ⟨_, h.fN (by decide) rfl, _, h.nia sh 8 n8 hse, ?_⟩
    rw [show (1 : Int32) = nI 1 from rfl, pk_sub (show 1 ≤ I 8 n by omega)]
    obtain ⟨u1, s1, h1⟩ := h.nis sh 8 n8 hse (I 8 n - 1)
    have v8 := h1.nia sh 8 n8 hse
    rw [up_eq, up_eq] at v8
    refine ⟨u1, s1, _, h1.fN (by decide) rfl, _, v8, ?_⟩
    have hlt : I 8 n - 1 < 2 ^ 32 := by split at e1 <;> omega
    have hn2 : n < 2 := Classical.byContradiction (fun q => by
      rcases hn with w | w
      · exact q w
      · obtain ⟨i, q1, _, q3⟩ := hdp w; omega)
    rw [if_pos hn2] at e1
    refine ⟨fun _ => ?_, fun w => absurd ((nI_0I hlt).mp w) (by omega)⟩
    refine hQ u1 S _ g h1 sh (ds.i8 _) (fun c hcl => ?_) hc (fun _ _ => rfl) (fun m hm => ?_) (fun m hm => Or.inl hm) ⟨fun i hi => up_ne _ _ (by omega), fun _ _ _ _ => rfl, rfl⟩ rfl (Nat.le_refl _)
    · rw [up_eq]
      by_cases q : c = n
      · subst q; rw [up_eq, up_eq, if_pos hn2]; omega
      · rw [up_ne _ _ q, up_ne _ _ q]; exact rc c hcl
    · have : m ≠ n := fun q => by have := hc.ge hm; omega
      rw [up_ne _ _ this]; exact hpos m hm
  | succ d ih =>
    intro f n xt g S I u Q hf h sh ds rc hc hn hx hxl hdp hpos hQ
    obtain ⟨f', rfl⟩ : ∃ f', f = f' + 1 := ⟨f - 1, by omega⟩
    have hle := sh.le
    have hse := ds.inlt sh hn
    have e1 := rc n hse
    have alb := alw_b n
    have b1 := rf_le g n
    have b2 := rr_le rt n
    have b3 := hxl n
    rw [p_N_leave]
    refine ⟨_, h.fN (by decide) rfl, _, h.nia sh 8 n8 hse, ?_⟩
    rw [show (1 : Int32) = nI 1 from rfl, pk_sub (show 1 ≤ I 8 n by omega)]
    obtain ⟨u1, s1, h1⟩ := h.nis sh 8 n8 hse (I 8 n - 1)
    have v8 := h1.nia sh 8 n8 hse
    rw [up_eq, up_eq] at v8
    refine ⟨u1, s1, _, h1.fN (by decide) rfl, _, v8, ?_⟩
    have hlt : I 8 n - 1 < 2 ^ 32 := by split at e1 <;> omega
    have RC1 : RC e g rt (va_up xt n (xt n - 1)) (va_up (I 8) n (I 8 n - 1)) := fun c hcl => by
      by_cases q : c = n
      · subst q; rw [up_eq, up_eq]; omega
      · rw [up_ne _ _ q, up_ne _ _ q]; exact rc c hcl
    refine ⟨fun w => ?_, fun w => ?_⟩
    · have w0 : I 8 n - 1 ≠ 0 := fun q => w (by rw [q]; rfl)
      refine hQ u1 S _ g h1 sh (ds.i8 _) (by rw [up_eq]; exact RC1) hc (fun _ _ => rfl) (fun m hm => ?_) (fun m hm => Or.inl hm) ⟨fun i hi => up_ne _ _ (by omega), fun _ _ _ _ => rfl, rfl⟩ rfl (Nat.le_refl _)
      by_cases q : m = n
      · subst q
        rw [up_eq]
        have := hc.ge hm
        rw [if_neg (by omega)] at e1
        omega
      · rw [up_ne _ _ q]; exact hpos m hm
    · have w0 : I 8 n - 1 = 0 := (nI_0I hlt).mp w
      have s2 : ¬ n < 2 := fun q => by rw [if_pos q] at e1; omega
      rw [if_neg s2] at e1
      have hgs : g n ≠ 0 := hn.resolve_left s2
      obtain ⟨i, hi, hk, hid⟩ := hdp hgs
      have hr0 : rf g n = 0 := by omega
      have hnp : ∀ m : Nat, g m ≠ 0 → n0 (g m) ≠ n ∧ n1 (g m) ≠ n := fun m hm => by
        have : ¬ 0 < r1 (g m) n := fun q => by
          have := (sumTo_pos (f := fun m => r1 (g m) n) 16384).mpr ⟨m, hc.lt hm, q⟩
          unfold rf at hr0
          omega
        exact ⟨fun q => this (r1_pos.mpr ⟨hm, Or.inl q⟩), fun q => this (r1_pos.mpr ⟨hm, Or.inr q⟩)⟩
      refine ⟨fun q => absurd q (Int32.not_le.mpr (nI_lt (a := 0) (b := d + 1) (by omega) (by have := hxl n; omega))), fun _ => ?_⟩
      have r7 := h1.nia sh 7 n7 hse
      rw [up_ne I _ (show (7 : Nat) ≠ 8 by decide), ds.cg hn, cg_lt (by omega)] at r7
      have w32 := (ds.2.2.1 n hgs).2.2
      refine ⟨_, h1.fN (by decide) rfl, _, r7, h1.obN (by decide), ?_⟩
      rw [nI_n0 w32, nI_n1, pk_sub (show 1 ≤ d + 1 by omega), show d + 1 - 1 = d by omega]
      have hnn := hnp n hgs
      have hne := hc.ne hgs
      have i0 := hc.i0 hgs
      have i1 := hc.i1 hgs
      have hup := fun c : Nat => rf_up g (hc.lt hgs) 0 c
      have r1v : ∀ c : Nat, r1 (g n) c = (if n0 (g n) = c then 1 else 0) + (if n1 (g n) = c then 1 else 0) := fun c => if_neg hgs
      refine q_N_forget h1 sh (ds.i8 _) hgs (fun w => w) (fun u2 S2 I2 w1 w2 w3 w4 w5 w6 w7 w8 => ?_)
      rw [up_eq] at w4
      have hc1 : CAN (Wo o) (va_up g n 0) D := hc.del hnp
      have gk : ∀ c : Nat, c ≠ n → va_up g n 0 c = g c := fun c q => up_ne _ _ q
      have sh2 : SH R S2 ln z e := sh.s (w3.2.1 7 (by decide) (by decide) (by decide))
      have in0 : IN (va_up g n 0) (n0 (g n)) := by
        rcases i0 with q | q
        · exact Or.inl q
        · exact Or.inr (by rw [gk _ hnn.1]; exact q)
      have in1 : IN (va_up g n 0) (n1 (g n)) := by
        rcases i1 with q | q
        · exact Or.inl q
        · exact Or.inr (by rw [gk _ hnn.2]; exact q)
      refine ⟨w1.obN (by decide), ih f' (n0 (g n)) (fun c => va_up xt n (xt n - 1) c + r1 (g n) c) (va_up g n 0) S2 I2 u2 _ (by omega) w1 sh2 w2 (fun c hcl => ?_) hc1 in0 ?_ (fun c => ?_) (fun q => ?_) (fun m hm => ?_) (fun u3 S3 I3 g3 x1 x2 x3 x4 x5 x6 x7 x8 x9 x10 x11 => ?_)⟩
      · rw [w4]
        have a := RC1 c hcl
        have b := hup c
        rw [r1_0] at b
        dsimp only
        omega
      · rw [r1v, if_pos rfl]; omega
      · have a := hxl c
        have b := r1_le (g n) c
        by_cases q : c = n
        · subst q; rw [up_eq]; omega
        · rw [up_ne _ _ q]; omega
      · rw [gk _ hnn.1] at q ⊢
        obtain ⟨l, l1, l2, l3⟩ := hc.later ho hgs hi hk (Or.inl rfl) q
        exact ⟨l, l1, l2, by omega⟩
      · have mn : m ≠ n := fun q => by subst q; rw [up_eq] at hm; exact hm rfl
        rw [gk m mn] at hm
        have a := hpos m hm
        have b := hup m
        rw [r1_0] at b
        rw [up_ne _ _ mn]
        omega
      · generalize hxt2 : va_up (fun c => va_up xt n (xt n - 1) c + r1 (g n) c) (n0 (g n)) (va_up xt n (xt n - 1) (n0 (g n)) + r1 (g n) (n0 (g n)) - 1) = xt2 at x4 x7 x8
        have x2v : ∀ c : Nat, xt2 c = va_up xt n (xt n - 1) c + (if n1 (g n) = c then 1 else 0) := fun c => by
          rw [← hxt2]
          by_cases q : c = n0 (g n)
          · subst q; rw [up_eq, r1v, if_pos rfl, if_neg (Ne.symm hne)]; omega
          · rw [up_ne _ _ q, r1v, if_neg (Ne.symm q)]; omega
        have x21 : 1 ≤ xt2 (n1 (g n)) := by rw [x2v, if_pos rfl]; omega
        have in13 : IN g3 (n1 (g n)) := by
          rcases x8 _ in1 with q | q
          · exact q
          · omega
        refine ⟨x1.obN (by decide), ih f' (n1 (g n)) xt2 g3 S3 I3 u3 _ (by omega) x1 x2 x3 x4 x5 in13 x21 (fun c => ?_) (fun q => ?_) x7 (fun u4 S4 I4 g4 y1 y2 y3 y4 y5 y6 y7 y8 y9 y10 y11 => ?_)⟩
        · have a := hxl c
          rw [x2v]
          by_cases q : c = n
          · subst q; rw [up_eq]; split <;> omega
          · rw [up_ne _ _ q]; split <;> omega
        · have q2 := x6 _ q
          rw [q2, gk _ hnn.2] at q
          rw [q2, gk _ hnn.2]
          obtain ⟨l, l1, l2, l3⟩ := hc.later ho hgs hi hk (Or.inr rfl) q
          exact ⟨l, l1, l2, by omega⟩
        · have ef : va_up xt2 (n1 (g n)) (xt2 (n1 (g n)) - 1) = va_up xt n (xt n - 1) := by
            funext c
            by_cases q : c = n1 (g n)
            · subst q; rw [up_eq, x2v, if_pos rfl]; omega
            · rw [up_ne _ _ q, x2v, if_neg (Ne.symm q)]; omega
          rw [ef] at y4 y7 y8
          refine hQ u4 S4 I4 g4 y1 y2 y3 y4 y5 (fun m hm => ?_) y7 (fun m hm => ?_) (((FN.tr ⟨fun i hi => up_ne _ _ (by omega), fun _ _ _ _ => rfl, rfl⟩ w3).tr x9).tr y9) (by omega) (by omega)
          · have a := y6 m hm
            rw [a] at hm
            have b := x6 m hm
            rw [b] at hm
            have mn : m ≠ n := fun q => by subst q; rw [up_eq] at hm; exact hm rfl
            rw [a, b, gk m mn]
          · -- what has gone has none that leads to it
            have mono1 : ∀ c : Nat, rf g4 c ≤ rf g3 c := fun c => rf_mono (fun m hm => y6 m hm) c
            have mono2 : ∀ c : Nat, rf g3 c ≤ rf (va_up g n 0) c := fun c => rf_mono (fun m hm => x6 m hm) c
            by_cases mn : m = n
            · subst mn
              refine Or.inr ?_
              have a1 := mono1 m
              have a2 := mono2 m
              have b := hup m
              rw [r1_0] at b
              rw [up_eq]
              omega
            · have hm1 : IN (va_up g n 0) m := by
                rcases hm with q | q
                · exact Or.inl q
                · exact Or.inr (by rw [gk m mn]; exact q)
              rcases x8 m hm1 with q | q
              · exact y8 m q
              · refine Or.inr ?_
                have a1 := mono1 m
                have b := x2v m
                omega
end LNM
