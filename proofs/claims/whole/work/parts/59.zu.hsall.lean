/-! siftAll() behind the drawing -/
theorem sift0 {F : Nat → Nat → Bool} {o : Nat → Nat} (ho : PO o) {k : Nat} (hk : k < 10) (hu : ∀ p : Nat, p < 24 → ¬ dep (fnOf (F p)) k) : siftP F o k = 0 := by
  have hr := remO_PR9 ho hk
  have hm0 : MTS F k 0 := ⟨by omega, fun y hy hne _ p hp w => hu p hp w.1⟩
  have w := W_none (F := F) (mt := 0) hr hm0 9 (by omega) (by
    have key : ∀ m : Nat, mC 0 (remO o (posO o k)) m = 0 := by
      intro m
      induction m with
      | zero => rfl
      | succ m ih => rw [mC_s, ih, Nat.zero_testBit]; rfl
    exact key 9)
  exact bst_uniq (Nat.zero_le _) (fun i hi => Nat.le_of_eq ((w 0 (by omega)).trans (w i hi).symm)) (fun i hi => absurd hi (by omega))
theorem SRT.congr {kp kp' : Nat → Nat} {T : Nat → Nat} {m : Nat} (h : SRT kp 10 T m) (e : ∀ a : Nat, a < 10 → kp' a = kp a) : SRT kp' 10 T m := by
  refine ⟨fun i hi => ⟨(h.1 i hi).1, by rw [e _ (h.1 i hi).1]; exact (h.1 i hi).2⟩, fun i j hij hj => by rw [e _ (h.1 i (by omega)).1, e _ (h.1 j hj).1]; exact h.2.1 i j hij hj, fun a ha hp => h.2.2 a ha (by rw [← e a ha]; exact hp)⟩
/-- what is left as it was by sifting all -/
def FSE (ad S : Nat → Nat) (I : Nat → Nat → Nat) (ln ad' S' : Nat → Nat) (I' : Nat → Nat → Nat) (ln' : Nat → Nat) : Prop := (∀ i : Nat, i < 7 ∨ 30 ≤ i → ad' i = ad i ∧ ln' i = ln i) ∧ (∀ i : Nat, i < 7 ∨ (30 ≤ i ∧ i ≠ 37 ∧ i ≠ 39 ∧ i ≠ 40) → I' i = I i) ∧ (∀ s : Nat, s < 3 ∨ s = 11 → S' s = S s) ∧ (∀ b : Nat, (∀ n : Nat, I 13 n ≤ b) → ∀ n : Nat, I' 13 n ≤ b)
section HSA
variable {L : Nat → Nat → Int64} {E : (Nat → Prop) × (Nat → Option PE)} {R : Nat × Nat} {o om : Nat → Nat} {F : Nat → Nat → Bool} {rt ad S : Nat → Nat} {I : Nat → Nat → Nat} {ln : Nat → Nat} {z : Nat × Nat} {u : PS} {e t n : Nat} {g : Nat → Nat} {D : Nat → Fn}
/-- inputs that are not asked stand anywhere -/
theorem NS.reorder (h : NS L E R B0 om F rt ad S I ln z u e g D) (hm : PO om) {f o' : Nat → Nat} (hf : PO f) (he : ∀ j : Nat, j < 10 → f j = o' j) {kp : Nat → Nat} (hk : ∀ a : Nat, a < 10 → (kp a = 0 → ∀ p : Nat, p < 24 → ¬ dep (fnOf (F p)) a)) (hr : ∀ i j : Nat, i < j → j < 10 → REL kp om (f i) (f j)) : NS L E R B0 o' F rt ad S I ln z u e g D := by
  obtain ⟨a1, a2, a3, a4, a5, a6⟩ := h
  refine ⟨a1, a2, a3, a4, ⟨a5.1.mono (fun m hg => ?_), a5.2⟩, a6⟩
  obtain ⟨i, hi, ei, hd⟩ := a5.1.w hg
  obtain ⟨p, hp, a, ea⟩ := a5.sound hm i m hi hg ei.symm
  have hkk := a5.1.k hg
  obtain ⟨j, hj, ej⟩ := hf.sur hkk
  have hdk : dep (fnOf (F p)) (nk (g m)) := by
    have := a5.1.dp hg
    rw [ea] at this
    exact fx_dep this
  refine ⟨j, hj, by rw [← he j hj]; exact ej, fun l hl hdl => ?_⟩
  rw [← he l (by omega)] at hdl
  have hfl := hf.1 l (by omega)
  have q := hr l j hl hj
  rw [ej] at q
  have kl : kp (f l) ≠ 0 := fun w => hk _ hfl w p hp (by rw [ea] at hdl; exact fx_dep hdl)
  have k2 : kp (nk (g m)) ≠ 0 := fun w => hk _ hkk w p hp hdk
  rcases q with q | q | q
  · exact kl q.1
  · exact kl q.1
  · have e1 : posO om (nk (g m)) = i := posO_eq hm hi ei
    obtain ⟨l1, l2⟩ := posO_spec hm hfl
    exact hd (posO om (f l)) (by rw [← e1]; exact q.2.2) (by rw [l2]; exact hdl)
theorem q_H_sa (h : OS L E R F rt n o ad S I ln z u e t g D) (ho : PO o) (l40 : ln 40 = 10) (hn : n + 11 < 2 ^ 31) {K : Int32 → PS → Prop} (hK : ∀ (u' : PS) (e' t' : Nat) (ad' S' : Nat → Nat) (I' : Nat → Nat → Nat) (ln' : Nat → Nat) (z' : Nat × Nat) (g' : Nat → Nat) (D' : Nat → Fn), OS L E R F rt (n + 10) (saO F o) ad' S' I' ln' z' u' e' t' g' D' → FSE ad S I ln ad' S' I' ln' → K (nI (wh (PR 0 24) F (saO F o))) u') : p_D_takeTurns (ad 2) u (fun (r_5 : Int32) (u_4 : PS) => (∃ n_13 : Nat, p_H_siftAll_L19 (ad 0) r_5 (fun (u_14 : PS) => (p_H_siftAll_J46 K (ad 0) u_14)) n_13 0 u_4)) := by
  obtain ⟨ns, h37, ⟨l37, l39, l6⟩, fb, h3, hmo, ts, hte, hm1, hm2⟩ := h
  have l9 : ln 9 = 10 := ns.2.1.2.2.1.2.2.1
  have asm : ∀ {o : Nat → Nat} {ad S : Nat → Nat} {I : Nat → Nat → Nat} {ln : Nat → Nat} {z : Nat × Nat} {u : PS} {e : Nat} {g : Nat → Nat} {D : Nat → Fn}, NS L E R B0 o F rt ad S I ln z u e g D → ∀ a : Nat, a < 10 → I 9 a < 2 ^ 31 := fun ns a ha => by
    have := MBR.le ns.2.2.1.2.2.2.2.2.2.1 (N := 16384) (fun m hm => by have := ns.2.2.1.2.2.1 m hm.1; have := ns.2.2.1.2.2.2.1; have := ns.2.1.le; omega) ha
    omega
  have kpe : ∀ a : Nat, a < 10 → kpO F o a = I 9 a := fun a ha => by
    obtain ⟨q1, q2⟩ := posO_spec ho ha
    have := ns.nq ho q1
    rw [q2] at this
    unfold kpO
    exact this.symm
  have un : ∀ a : Nat, a < 10 → kpO F o a = 0 → ∀ p : Nat, p < 24 → ¬ dep (fnOf (F p)) a := fun a ha h0 => ns.unused ho ha (by rw [← kpe a ha]; exact h0)
  refine q_D_takeTurns ns.1 l9 l40 (asm ns) (fun u1 m f v1 hT hm => ?_)
  have hT' := hT.congr (kp' := kpO F o) kpe
  have hm10 := hT.len
  refine ⟨m + 1, ?_⟩
  -- the turns
  have loop : ∀ (d i : Nat) (u2 : PS) (e2 t2 : Nat) (ad2 S2 : Nat → Nat) (I2 : Nat → Nat → Nat) (ln2 : Nat → Nat) (z2 : Nat × Nat) (g2 : Nat → Nat) (D2 : Nat → Fn), i + d = m → OS L E R F rt (n + i) (saN F (kpO F o) o i).2 ad2 S2 I2 ln2 z2 u2 e2 t2 g2 D2 → FSD ad S (va_up I 40 f) ln ad2 S2 I2 ln2 → p_H_siftAll_L19 (ad 0) (nI m) (fun (u_14 : PS) => (p_H_siftAll_J46 K (ad 0) u_14)) (d + 1) (nI i) u2 := by
    intro d
    induction d with
    | zero =>
      intro i u2 e2 t2 ad2 S2 I2 ln2 z2 g2 D2 hi hos hf
      obtain rfl : i = m := by omega
      obtain ⟨ns2, g37, ⟨b37, b39, b6⟩, gb, g3, gmo, gts, gte, gm1, gm2⟩ := hos
      have E0 : ad2 0 = ad 0 := (hf.1 0 (by omega)).1
      have E2 : ad2 2 = ad 2 := (hf.1 2 (by omega)).1
      have b40 : ln2 40 = 10 := by rw [(hf.1 40 (by omega)).2]; exact l40
      have b9 : ln2 9 = 10 := ns2.2.1.2.2.1.2.2.1
      have hpo := saN_PO (F := F) (kp := kpO F o) ho i (by omega)
      rw [p_H_siftAll_L19]
      refine pk_le i i (fun _ => ?_) (fun w => absurd w (by omega))
      unfold p_H_siftAll_J46
      rw [← E0]
      refine ⟨_, ns2.1.fH (by decide) rfl, ns2.1.obD (by decide), ?_⟩
      refine q_D_settleUnused ns2.1 b9 b37 b40 (asm ns2) hpo g37 (fun u3 f3 f4 q1 q2 q3 q4 => ?_)
      -- the same inputs are asked
      have z1 : ∀ a : Nat, a < 10 → (I2 9 a = 0 ↔ kpO F o a = 0) := fun a ha => by
        constructor
        · intro w
          refine Classical.byContradiction (fun w2 => ?_)
          obtain ⟨p, hp, hd⟩ := ns.used ho ha (by rw [← kpe a ha]; exact w2)
          exact ns2.unused hpo ha w p hp hd
        · intro w
          refine Classical.byContradiction (fun w2 => ?_)
          obtain ⟨p, hp, hd⟩ := ns2.used hpo ha w2
          exact un a ha w p hp hd
      have q4' : ∀ a b : Nat, a < b → b < 10 → REL (kpO F o) (saN F (kpO F o) o i).2 (f3 a) (f3 b) := fun a b hab hb => by
        have w := q4 a b hab hb
        have za := z1 _ (q2.1 a (by omega))
        have zb := z1 _ (q2.1 b hb)
        rcases w with w | w | w
        · exact Or.inl ⟨za.mp w.1, fun q => w.2 (zb.mpr q)⟩
        · exact Or.inr (Or.inl ⟨za.mp w.1, zb.mp w.2.1, w.2.2⟩)
        · exact Or.inr (Or.inr ⟨fun q => w.1 (za.mpr q), fun q => w.2.1 (zb.mpr q), w.2.2⟩)
      have hsa := saO_rel (F := F) (kp := kpO F o) ho hT' (fun o' k hp hk h0 => by
        unfold siftO
        rw [sift0 hp hk (un k hk h0)]) q2 q4'
      have ns3 : NS L E R B0 (saN F (kpO F o) o i).2 F rt ad2 S2 (va_up (va_up I2 40 f3) 37 f4) ln2 z2 u3 e2 g2 D2 := ns2.put q1 (fun _ _ _ => rfl) (fun j _ _ => by rw [up_ne _ _ (by omega), up_ne _ _ (by omega)])
      have ns4 : NS L E R B0 (saO F o) F rt ad2 S2 (va_up (va_up I2 40 f3) 37 f4) ln2 z2 u3 e2 g2 D2 := ns3.reorder hpo q2 (o' := saO F o) hsa (kp := kpO F o) (fun a ha h0 => un a ha h0) q4'
      have hpo10 : PO (saO F o) := saN_PO (F := F) (kp := kpO F o) ho 10 (Nat.le_refl _)
      refine ⟨_, q1.fH (by decide) rfl, q1.obD (by decide), ?_⟩
      unfold p_D_wholeSize
      refine ⟨_, q1.fD (by decide) rfl, q1.obN (by decide), ?_⟩
      unfold p_N_wholeSize
      refine ⟨_, q1.fN (by decide) rfl, ?_⟩
      rw [ns4.size hpo10]
      have gI : ∀ j : Nat, j ≠ 37 → j ≠ 40 → va_up (va_up I2 40 f3) 37 f4 j = I2 j := fun j a b => by rw [up_ne _ _ a, up_ne _ _ b]
      refine hK u3 e2 t2 ad2 S2 _ ln2 z2 g2 D2 ⟨ns4, fun j hj => ?_, ⟨b37, b39, b6⟩, ?_, g3, fun w => ?_, gts, gte, gm1, by omega⟩ ⟨hf.1, fun j hj => ?_, hf.2.2.1, hf.2.2.2⟩
      · rw [up_eq, q3 j hj]; exact hsa j hj
      · unfold FB at gb ⊢
        rw [gI 6 (by decide) (by decide)]
        exact gb
      · have := gmo w
        unfold MOK at this ⊢
        rw [gI 39 (by decide) (by decide)]
        exact this
      · rw [gI j (by omega) (by omega), hf.2.1 j (by omega), up_ne _ _ (by omega)]
    | succ d ih =>
      intro i u2 e2 t2 ad2 S2 I2 ln2 z2 g2 D2 hi hos hf
      have hos0 := hos
      obtain ⟨ns2, g37, ⟨b37, b39, b6⟩, gb, g3, gmo, gts, gte, gm1, gm2⟩ := hos
      have E0 : ad2 0 = ad 0 := (hf.1 0 (by omega)).1
      have b40 : ln2 40 = 10 := by rw [(hf.1 40 (by omega)).2]; exact l40
      have I40 : I2 40 = f := by rw [hf.2.1 40 (by omega), up_eq]
      have hpo := saN_PO (F := F) (kp := kpO F o) ho i (by omega)
      have fi := (hT.1 i (by omega)).1
      rw [p_H_siftAll_L19, ← E0]
      refine pk_le m i (fun w => absurd w (by omega)) (fun _ => ?_)
      refine ⟨_, ns2.1.fH (by decide) rfl, _, ns2.1.fH (by decide) rfl, ns2.1.obD (by decide), ?_⟩
      unfold p_D_inputWithTurn
      have r40 := ns2.1.ia 40 (by decide) (ii (by decide)) (j := i) (by omega) (by omega)
      rw [I40] at r40
      refine ⟨_, ns2.1.fD (by decide) rfl, _, r40, ns2.1.obD (by decide), ?_⟩
      refine q_D_settle hos0 hpo fi (by omega) (fun u3 e3 t3 ad3 S3 I3 ln3 z3 g3' D3 q1 q2 => nm_e ?_)
      rw [nI_1, E0]
      rw [← saN_ord (F := F) (o := o) hT' (show i < m by omega)] at q1
      exact ih (i + 1) u3 e3 t3 ad3 S3 I3 ln3 z3 g3' D3 (by omega) q1 (hf.tr q2)
  have gI : ∀ j : Nat, j ≠ 40 → va_up I 40 f j = I j := fun j a => up_ne _ _ a
  refine loop m 0 u1 e t ad S (va_up I 40 f) ln z g D (by omega) ⟨ns.put v1 (fun _ _ _ => rfl) (fun j _ _ => gI j (by omega)), fun j hj => by rw [gI 37 (by decide)]; exact h37 j hj, ⟨l37, l39, l6⟩, ?_, h3, fun w => ?_, ts, hte, hm1, by omega⟩ (FSD.rf _ _ _ _)
  · unfold FB at fb ⊢
    rw [gI 6 (by decide)]
    exact fb
  · have := hmo w
    unfold MOK at this ⊢
    rw [gI 39 (by decide)]
    exact this
end HSA
