/-! sinking by trial: a step -/
def bs (n : Nat) : Nat := if n < 2 then alw n else 0
section SKB
variable {ad S : Nat → Nat} {I : Nat → Nat → Nat} {ln : Nat → Nat} {L : Nat → Nat → Int64} {E : (Nat → Prop) × (Nat → Option PE)} {z R : Nat × Nat} {u : PS} {e f0 : Nat} {g gt gg rt xt : Nat → Nat} {D : Nat → Fn} {T : Nat → Prop} {o r : Nat → Nat} {x pl c : Nat} {W : Nat → Fn → Prop}
/-- one less would lead to s, which would go if it was the last one -/
theorem q_T_drop (h : VC 69 ad S I ln L E z u) (sh : SH R S ln z e) (ts : TSH ln e) (hf0 : f0 ≤ 2 ^ e) (hc : CAN W gg D) (hsub : ∀ n : Nat, IN gg n → IN gt n) (ld : ∀ n : Nat, IN gt n → lowr x r c (D n) → n < f0 ∧ I 24 n = bs n + rf gg n + rr rt n + xt n) {s w : Nat} (hs : IN gg s) (hl : lowr x r c (D s)) (hx : xt s = 1) (hxl : ∀ c : Nat, xt c ≤ 2) (hw : s < 2 ∨ w = gg s) (hw32 : w < 2 ^ 32) {gone N A : Nat} (hN : Cnt (fun n => gg n ≠ 0) N) (hA : Cnt (fun n => gg n ≠ 0 ∧ nk (gg n) = x) A)
    {C : Int32 → PS → Prop} (hQ : ∀ (u' : PS) (lead : Nat → Nat) (gone' N' : Nat), VC 69 ad S (va_up I 24 lead) ln L E z u' → (∀ n : Nat, IN gt n → lowr x r c (D n) → n < f0 ∧ lead n = bs n + rf (dl gg rt s) n + rr rt n + va_up xt s 0 n) → Cnt (fun n => dl gg rt s n ≠ 0) N' → Cnt (fun n => dl gg rt s n ≠ 0 ∧ nk (dl gg rt s n) = x) A → N' + gone' = N + gone → C (nI gone') u') :
    (∃ z_24 : Int32, x_ia u (ad 24) (nI s) z_24 ∧ (∃ u_25 : PS, x_is u (ad 24) (nI s) (z_24 - (1 : Int32)) u_25 ∧ (∃ z_26 : Int32, x_ia u_25 (ad 24) (nI s) z_26 ∧ ((¬ z_26 = 0 → (C (nI gone) u_25)) ∧ (z_26 = 0 → (∃ z_38 : Int32, x_ia u_25 (ad 24) ((((nI w).toUInt32 >>> ((14 : Int32).toUInt32 &&& Int32.toUInt32 31)).toInt32) &&& (16383 : Int32)) z_38 ∧ (∃ u_39 : PS, x_is u_25 (ad 24) ((((nI w).toUInt32 >>> ((14 : Int32).toUInt32 &&& Int32.toUInt32 31)).toInt32) &&& (16383 : Int32)) (z_38 - (1 : Int32)) u_39 ∧ (∃ z_40 : Int32, x_ia u_39 (ad 24) ((nI w) &&& (16383 : Int32)) z_40 ∧ (∃ u_41 : PS, x_is u_39 (ad 24) ((nI w) &&& (16383 : Int32)) (z_40 - (1 : Int32)) u_41 ∧ (∀ x6_42 : Int32, x6_42 = ((nI gone) + 1) → (C x6_42 u_41))))))))))) := by
  have hle := sh.le
  obtain ⟨s0, e1⟩ := ld s (hsub s hs) hl
  have b1 := rf_le gg s
  have b2 := rr_le rt s
  have alb := alw_b s
  have bb : bs s = alw s ∨ bs s = 0 := by unfold bs; split <;> omega
  refine ⟨_, h.tia ts hle 24 t24 (j := s) (by omega), ?_⟩
  rw [show (1 : Int32) = nI 1 from rfl, pk_sub (show 1 ≤ I 24 s by omega)]
  obtain ⟨u1, s1, h1⟩ := h.tis ts hle 24 t24 (j := s) (by omega) (I 24 s - 1)
  have v8 := h1.tia ts hle 24 t24 (j := s) (by omega)
  rw [up_eq, up_eq] at v8
  have hlt : I 24 s - 1 < 2 ^ 32 := by omega
  refine ⟨u1, s1, _, v8, fun w1 => ?_, fun w1 => ?_⟩
  · have w0 : I 24 s - 1 ≠ 0 := fun q => w1 (by rw [q]; rfl)
    have hdl : dl gg rt s = gg := by
      by_cases s2 : s < 2
      · exact dl_0 (hc.nz s2)
      · have : bs s = 0 := if_neg s2
        exact dl_pos ((led_iff hc rt s).mpr (by omega))
    refine hQ u1 _ gone N h1 (fun n hn hln => ?_) (by rw [hdl]; exact hN) (by rw [hdl]; exact hA) rfl
    obtain ⟨c1, c2⟩ := ld n hn hln
    refine ⟨c1, ?_⟩
    rw [hdl]
    by_cases q : n = s
    · subst q; rw [up_eq, up_eq]; omega
    · rw [up_ne _ _ q, up_ne _ _ q]; exact c2
  · have w0 : I 24 s - 1 = 0 := (nI_0I hlt).mp w1
    have s2 : ¬ s < 2 := fun q => by
      have : bs s = alw s := if_pos q
      omega
    have bs0 : bs s = 0 := if_neg s2
    have hnl : ¬ LED gg rt s := fun q => by have := (led_iff hc rt s).mp q; omega
    have hgs : gg s ≠ 0 := hs.resolve_left s2
    have ew : w = gg s := hw.resolve_left s2
    subst ew
    rw [nI_n0 hw32, nI_n1]
    have i0 := hc.i0 hgs
    have i1 := hc.i1 hgs
    have lw0 : lowr x r c (D (n0 (gg s))) := by rw [← hc.c0 hgs]; exact hl.cof _ _
    have lw1 : lowr x r c (D (n1 (gg s))) := by rw [← hc.c1 hgs]; exact hl.cof _ _
    obtain ⟨z0, e0⟩ := ld _ (hsub _ i0) lw0
    obtain ⟨z1, e1'⟩ := ld _ (hsub _ i1) lw1
    have hne := hc.ne hgs
    have ns0 : n0 (gg s) ≠ s := fun q => hnl (Or.inl ⟨s, hgs, Or.inl q⟩)
    have ns1 : n1 (gg s) ≠ s := fun q => hnl (Or.inl ⟨s, hgs, Or.inr q⟩)
    have hup := fun c : Nat => rf_up gg (hc.lt hgs) 0 c
    have r1v : ∀ c : Nat, r1 (gg s) c = (if n0 (gg s) = c then 1 else 0) + (if n1 (gg s) = c then 1 else 0) := fun c => if_neg hgs
    have p0 : 1 ≤ I 24 (n0 (gg s)) := by
      have b := hup (n0 (gg s))
      rw [r1v, r1_0, if_pos rfl] at b
      omega
    have p1 : 1 ≤ I 24 (n1 (gg s)) := by
      have b := hup (n1 (gg s))
      rw [r1v, r1_0, if_pos (rfl : n1 (gg s) = n1 (gg s))] at b
      omega
    have a0 := h1.tia ts hle 24 t24 (j := n0 (gg s)) (by omega)
    rw [up_eq, up_ne _ _ ns0] at a0
    refine ⟨_, a0, ?_⟩
    rw [pk_sub p0]
    obtain ⟨u2, s2', h2⟩ := h1.tis ts hle 24 t24 (j := n0 (gg s)) (by omega) (I 24 (n0 (gg s)) - 1)
    rw [up_eq, bx_uu] at h2
    refine ⟨u2, s2', ?_⟩
    have a1 := h2.tia ts hle 24 t24 (j := n1 (gg s)) (by omega)
    rw [up_eq, up_ne _ _ (Ne.symm hne), up_ne _ _ ns1] at a1
    refine ⟨_, a1, ?_⟩
    rw [pk_sub p1]
    obtain ⟨u3, s3, h3⟩ := h2.tis ts hle 24 t24 (j := n1 (gg s)) (by omega) (I 24 (n1 (gg s)) - 1)
    rw [up_eq, bx_uu] at h3
    refine ⟨u3, s3, nm_e ?_⟩
    rw [nI_add]
    have hdl : dl gg rt s = va_up gg s 0 := dl_neg hnl
    have hsubN := hN.sub s (P := fun n => va_up gg s 0 n ≠ 0) hgs (fun n => by
      by_cases q : n = s
      · subst q; rw [up_eq]; exact ⟨fun w => absurd rfl w, fun w => absurd rfl w.2⟩
      · rw [up_ne _ _ q]; exact ⟨fun w => ⟨w, q⟩, fun w => w.1⟩)
    have nkx : nk (gg s) ≠ x := fun q => hl.1 (by rw [← q]; exact hc.dp hgs)
    refine hQ u3 _ (gone + 1) (N - 1) h3 (fun n hn hln => ?_) (by rw [hdl]; exact hsubN.2) (by
      rw [hdl]
      refine hA.congr (fun n => ?_)
      by_cases q : n = s
      · subst q; rw [up_eq]; exact ⟨fun w => absurd w.2 nkx, fun w => absurd rfl w.1⟩
      · rw [up_ne _ _ q]) (by have := hsubN.1; omega)
    obtain ⟨c1, c2⟩ := ld n hn hln
    refine ⟨c1, ?_⟩
    rw [hdl]
    have b := hup n
    rw [r1v, r1_0] at b
    by_cases q1 : n = n1 (gg s)
    · subst q1
      rw [up_eq, up_ne xt _ ns1]
      rw [if_neg hne, if_pos rfl] at b
      omega
    · rw [up_ne _ _ q1]
      by_cases q0 : n = n0 (gg s)
      · subst q0
        rw [up_eq, up_ne xt _ ns0]
        rw [if_pos rfl, if_neg (Ne.symm q1)] at b
        omega
      · rw [up_ne _ _ q0]
        rw [if_neg (Ne.symm q0), if_neg (Ne.symm q1)] at b
        by_cases q : n = s
        · subst q; rw [up_eq, up_eq]; omega
        · rw [up_ne _ _ q, up_ne _ _ q]; omega
end SKB
