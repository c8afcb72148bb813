/-! rising by trial: one node of the input above -/
theorem SW.symm {o o' : Nat → Nat} {i : Nat} (h : SW o o' i) : SW o' o i := ⟨h.1, h.2.2.1.symm, h.2.1.symm, fun j a b => (h.2.2.2 j a b).symm⟩
/-- in the middle of a step above r i -/
def MRI (e f0 : Nat) (g rt o r : Nat → Nat) (x i : Nat) (gt gg : Nat → Nat) (D : Nat → Fn) (T : Nat → Prop) (xt : Nat → Nat) (S : Nat → Nat) (I : Nat → Nat → Nat) (ln : Nat → Nat) : Prop :=
  TM e f0 g gt S I ln ∧ CAN (Wo o) gt D ∧ CAN (W2 (insO r (i + 1) x) (insO r i x)) gg D ∧ TT (insO r (i + 1) x) i gg D T ∧ (∀ n : Nat, gg n ≠ 0 → gt n ≠ 0) ∧ (∀ n : Nat, gt n ≠ 0 → gg n = gt n ∨ I 25 n = S 14) ∧ (∀ n : Nat, gg n ≠ 0 → (I 25 n = S 14 ↔ nk (gg n) = x)) ∧ (∀ n : Nat, n < 2 ∨ f0 ≤ n → I 25 n ≠ S 14) ∧ (∀ n : Nat, gg n ≠ 0 → nk (gg n) = x → n0 (I 26 n) = n0 (gg n) ∧ n1 (I 26 n) = n1 (gg n) ∧ I 26 n < 2 ^ 32) ∧ (∀ n : Nat, gg n ≠ 0 → (nk (gg n) = x ∨ (∃ j : Nat, j < i ∧ nk (gg n) = r j) ∨ T n) → I 24 n + xt n = rf gg n + rr rt n) ∧ (∀ n : Nat, gt n ≠ 0 → ¬ dep (D n) x → gg n = gt n) ∧ (S 14 < 2 ^ 31 ∧ ∀ n : Nat, I 25 n ≤ S 14)
def FR2 (S : Nat → Nat) (I : Nat → Nat → Nat) (S' : Nat → Nat) (I' : Nat → Nat → Nat) : Prop := (∀ i : Nat, i ≠ 7 → i ≠ 11 → i ≠ 12 → i ≠ 24 → i ≠ 25 → i ≠ 26 → I' i = I i) ∧ (∀ s : Nat, s ≠ 9 → s ≠ 13 → S' s = S s) ∧ S 9 ≤ S' 9
theorem FR2.rf (S : Nat → Nat) (I : Nat → Nat → Nat) : FR2 S I S I := ⟨fun _ _ _ _ _ _ _ => rfl, fun _ _ _ => rfl, Nat.le_refl _⟩
theorem FR2.tr {S S' S'' : Nat → Nat} {I I' I'' : Nat → Nat → Nat} (h : FR2 S I S' I') (k : FR2 S' I' S'' I'') : FR2 S I S'' I'' := ⟨fun i a b c d f q => (k.1 i a b c d f q).trans (h.1 i a b c d f q), fun s hs ht => (k.2.1 s hs ht).trans (h.2.1 s hs ht), Nat.le_trans h.2.2 k.2.2⟩
section RIS
variable {ad S : Nat → Nat} {I : Nat → Nat → Nat} {ln : Nat → Nat} {L : Nat → Nat → Int64} {E : (Nat → Prop) × (Nat → Option PE)} {z R : Nat × Nat} {u : PS} {e f0 : Nat} {g gt gg rt xt : Nat → Nat} {D : Nat → Fn} {T : Nat → Prop} {o r : Nat → Nat} {x pl i : Nat}
/-- one of the two new nodes: of y = r i, what it leads to isn't x's -/
theorem q_T_half (h : VC 69 ad S I ln L E z u) (sh : SH R S ln z e) (ho : PO o) (hr : PR9 r x) (hx10 : x < 10) (hi9 : i < 9) (hio : o i = r i) (hro : ∀ j : Nat, j < i → o j = r j) (ms : MRI e f0 g rt o r x i gt gg D T xt S I ln) {a b : Nat} {f : Fn} (ha : IN gg a) (hb : IN gg b) (ea : D a = cof (r i) false f) (eb : D b = cof (r i) true f) (hf : ¬ dep f x) (hfb : ∀ j : Nat, j < i → ¬ dep f (r j)) (hr9 : S 9 < 2 ^ e) {N : Nat} (hN : Cnt (fun n => gg n ≠ 0) N) {A : Nat} (hA : Cnt (fun n => gg n ≠ 0 ∧ nk (gg n) = x) A)
    {Q : Int32 → PS → Prop} (hQ : ∀ (u' : PS) (S' : Nat → Nat) (I' : Nat → Nat → Nat) (gt' gg' : Nat → Nat) (D' : Nat → Fn) (m : Nat), VC 69 ad S' I' ln L E z u' → MRI e f0 g rt o r x i gt' gg' D' T xt S' I' ln → MD gg' (r i) a b m → EX gg D gg' D' m → (∀ n : Nat, IN gt n → D' n = D n ∧ gt' n = gt n) → (∀ j : Nat, j ≠ 7 → j ≠ 11 → j ≠ 12 → I' j = I j) → (∀ s : Nat, s ≠ 9 → S' s = S s) → S 9 ≤ S' 9 → S' 9 ≤ S 9 + 1 → Cnt (fun n => gg' n ≠ 0) (N + (S' 9 - S 9)) → Cnt (fun n => gg' n ≠ 0 ∧ nk (gg' n) = x) A → (∀ n : Nat, gg n ≠ 0 → (nk (gg n) = x ∨ (∃ j : Nat, j < i ∧ nk (gg n) = r j) ∨ T n) → rf gg' n = rf gg n) → Q (nI m) u') : p_N_triedFor (ad 4) (nI (r i)) (nI a) (nI b) u Q := by
  have hle := sh.le
  obtain ⟨tm, hct, hcg, hT, k1, k2, k3, k3', k4, k5, k6, k7⟩ := id ms
  have hy10 : r i < 10 := (hr.1 i hi9).1
  have hxy : r i ≠ x := (hr.1 i hi9).2
  have hs : SW (insO r (i + 1) x) (insO r i x) i := (ins_sw r x hi9).symm
  have hoc : PO (insO r (i + 1) x) := insO_PO hr hx10 (by omega)
  have ey : insO r (i + 1) x i = r i := ins_lt r x (by omega)
  have ex : insO r (i + 1) x (i + 1) = x := insO_at r (i + 1) x
  have inT : ∀ n : Nat, IN gg n → IN gt n := fun n hn => by
    rcases hn with q | q
    · exact Or.inl q
    · exact Or.inr (k1 n q)
  have hat := inT a ha
  have hbt := inT b hb
  obtain ⟨_, _, a3⟩ := tm.cg hat
  obtain ⟨_, _, b3⟩ := tm.cg hbt
  have s9 : S 9 ≤ 2 ^ e := tm.2.2.2.1.2.2
  have f09 : f0 ≤ S 9 := tm.2.2.2.1.2.1
  have f02 : 2 ≤ f0 := tm.2.2.2.1.1
  have ef : iteF (r i) (D a) (D b) = f := by rw [ea, eb, ite_cof]
  refine q_N_triedFor h sh tm hy10 (by omega) (by omega) (fun _ => hr9) (fun m hm => ?_) (fun u1 I1 hab hno hg0 h29 h916 v1 v2 v3 => ?_)
  · have hD := MD_D hct hat hbt hm
    have hm' : MD gg (r i) a b m := by
      rcases hm with w | ⟨w1, w2⟩
      · exact Or.inl w
      · refine Or.inr ⟨w1, ?_⟩
        rw [k6 m (by rw [w2]; exact cd_ne w1) (by rw [hD.2, ef]; exact hf)]
        exact w2
    exact hQ u S I gt gg D m h ms hm' (EX.rf gg D m) (fun _ _ => ⟨rfl, rfl⟩) (fun _ _ _ _ => rfl) (fun _ _ => rfl) (Nat.le_refl _) (by omega) (by rw [Nat.sub_self]; exact hN) hA (fun _ _ _ => rfl)
  · have da : ¬ dep (D a) (r i) := by rw [ea]; exact not_dep_cof _ _ _
    have db : ¬ dep (D b) (r i) := by rw [eb]; exact not_dep_cof _ _ _
    have dy : dep f (r i) := fun q => hab (hct.inj hat hbt (by rw [ea, eb]; exact q))
    have wo : Wo o (r i) f := ⟨i, by omega, hio, fun j hj => by rw [hro j hj]; exact hfb j hj⟩
    have hfr : ∀ n : Nat, IN gt n → D n ≠ iteF (r i) (D a) (D b) := fun n hn q => hno n (hct.code hn hat hbt hab da db q (fun k' w1 w2 => by
      rw [q, ef] at w1 w2
      rw [← hio]
      exact w1.uniq w2 (by rw [hio]; exact dy) (fun j hj => by rw [hro j hj]; exact hfb j hj)))
    have hct' := hct.add hg0 h29 h916 hy10 hat hbt hab da db (by rw [ef]; exact wo) hfr
    have gg0 : gg (S 9) = 0 := Classical.byContradiction (fun q => k1 _ q hg0)
    have tw := turn_w hs hoc (f := f) (fun j hj => by rw [ins_lt r x (by omega)]; exact hfb j hj) (by rw [ex]; exact hf) (by rw [ey]; exact dy)
    rw [ey] at tw
    have hcg' := hcg.add gg0 h29 h916 hy10 ha hb hab da db (by rw [ef]; exact tw.1) (fun n hn => hfr n (inT n hn))
    have nS : ∀ n : Nat, IN gt n → n ≠ S 9 := fun n hn q => by have := (tm.cg hn).2.2; omega
    have Dm : ∀ n : Nat, IN gt n → va_up D (S 9) (iteF (r i) (D a) (D b)) n = D n := fun n hn => up_ne _ _ (nS n hn)
    have I24 : I1 24 = I 24 := v3 24 (by decide) (by decide) (by decide)
    have I25 : I1 25 = I 25 := v3 25 (by decide) (by decide) (by decide)
    have I26 : I1 26 = I 26 := v3 26 (by decide) (by decide) (by decide)
    have S14 : va_up S 9 (S 9 + 1) 14 = S 14 := rfl
    have S9' : va_up S 9 (S 9 + 1) 9 = S 9 + 1 := up_eq _ _ _
    have gn : ∀ n : Nat, n ≠ S 9 → va_up gg (S 9) (cd (r i) a b) n = gg n := fun n q => up_ne _ _ q
    have tn : ∀ n : Nat, n ≠ S 9 → va_up gt (S 9) (cd (r i) a b) n = gt n := fun n q => up_ne _ _ q
    have nkm : nk (cd (r i) a b) = r i := nk_cd (by omega) (by omega)
    -- what leads to a tracked node stays
    have trk : ∀ n : Nat, gg n ≠ 0 → (nk (gg n) = x ∨ (∃ j : Nat, j < i ∧ nk (gg n) = r j) ∨ T n) → a ≠ n ∧ b ≠ n := fun n hn htr => by
      have hdn := hcg.dp hn
      have key : ∀ q : Nat, (∃ c : Bool, D q = cof (r i) c f) → q ≠ n := fun q ⟨c, ec⟩ w => by
        rw [w] at ec
        rcases htr with w1 | ⟨j, w1, w2⟩ | w1
        · rw [w1, ec] at hdn
          exact hf (cof_dep hdn)
        · rw [w2, ec] at hdn
          exact hfb j w1 (cof_dep hdn)
        · have w2 := (hT.1 n w1).2.1
          rw [w2, ey, ec] at hdn
          exact not_dep_cof _ _ _ hdn
      exact ⟨key a ⟨false, ea⟩, key b ⟨true, eb⟩⟩
    have rfe : ∀ n : Nat, gg n ≠ 0 → (nk (gg n) = x ∨ (∃ j : Nat, j < i ∧ nk (gg n) = r j) ∨ T n) → rf (va_up gg (S 9) (cd (r i) a b)) n = rf gg n := fun n hn htr => by
      have ru := rf_up gg (show S 9 < 16384 by omega) (cd (r i) a b) n
      rw [gg0, r1_0, r1_cd hab (by omega) (by omega), if_neg (trk n hn htr).1, if_neg (trk n hn htr).2] at ru
      omega
    have nTS : ¬ T (S 9) := fun q => (hT.1 _ q).1 gg0
    refine hQ u1 _ I1 (va_up gt (S 9) (cd (r i) a b)) (va_up gg (S 9) (cd (r i) a b)) (va_up D (S 9) (iteF (r i) (D a) (D b))) (S 9) v1 ⟨v2, hct', hcg', ⟨fun t tt => ?_, fun n hn hTn hk => ?_⟩, fun n hn => ?_, fun n hn => ?_, fun n hn => ?_, fun n hn => ?_, fun n hn hk => ?_, fun n hn htr => ?_, fun n hn hnd => ?_, by rw [S14, I25]; exact k7⟩ (Or.inr ⟨hab, up_eq _ _ _⟩) ⟨fun n hn => ⟨in_up (cd_ne hab) hn, Dm n (inT n hn), gn n (nS n (inT n hn))⟩, fun n hn => ?_⟩ (fun n hn => ⟨Dm n hn, tn n (nS n hn)⟩) v3 (fun s q => up_ne _ _ q) (by rw [S9']; omega) (by rw [S9']; omega) ?_ ?_ rfe
    · obtain ⟨w1, w2, w3⟩ := hT.1 t tt
      rw [gn t (nS t (Or.inr (k1 t w1))), Dm t (Or.inr (k1 t w1))]
      exact ⟨w1, w2, w3⟩
    · by_cases q : n = S 9
      · subst q
        rw [up_eq, ef, ex]
        exact hf
      · rw [gn n q] at hn hk
        rw [Dm n (Or.inr (k1 n hn))]
        exact hT.2 n hn hTn hk
    · by_cases q : n = S 9
      · subst q; rw [up_eq]; exact cd_ne hab
      · rw [gn n q] at hn; rw [tn n q]; exact k1 n hn
    · rw [S14, I25]
      by_cases q : n = S 9
      · subst q; exact Or.inl (by rw [up_eq, up_eq])
      · rw [tn n q] at hn ⊢
        rw [gn n q]; exact k2 n hn
    · rw [S14, I25]
      by_cases q : n = S 9
      · subst q
        rw [up_eq, nkm]
        exact ⟨fun w => absurd w (k3' _ (Or.inr f09)), fun w => absurd w hxy⟩
      · rw [gn n q] at hn ⊢; exact k3 n hn
    · rw [S14, I25]; exact k3' n hn
    · rw [I26]
      by_cases q : n = S 9
      · subst q
        rw [up_eq, nkm] at hk
        exact absurd hk hxy
      · rw [gn n q] at hn hk ⊢; exact k4 n hn hk
    · rw [I24]
      by_cases q : n = S 9
      · subst q
        rw [up_eq, nkm] at htr
        exfalso
        rcases htr with w | ⟨j, w1, w2⟩ | w
        · exact hxy w
        · have := hr.2 i j hi9 (by omega) w2
          omega
        · exact nTS w
      · rw [gn n q] at hn htr
        rw [rfe n hn htr]
        exact k5 n hn htr
    · by_cases q : n = S 9
      · subst q; rw [up_eq, up_eq]
      · rw [tn n q] at hn ⊢
        rw [Dm n (Or.inr hn)] at hnd
        rw [gn n q]; exact k6 n hn hnd
    · by_cases q : n = S 9
      · exact Or.inr q
      · rw [gn n q] at hn; exact Or.inl hn
    · rw [S9', show N + (S 9 + 1 - S 9) = N + 1 by omega]
      refine hN.add (S 9) (fun q => q gg0) (fun n => ?_)
      by_cases q : n = S 9
      · subst q; rw [up_eq]; exact ⟨fun _ => Or.inr rfl, fun _ => cd_ne hab⟩
      · rw [gn n q]; exact ⟨fun w => Or.inl w, fun w => w.resolve_right q⟩
    · refine hA.congr (fun n => ?_)
      by_cases q : n = S 9
      · subst q; rw [up_eq, nkm]; exact ⟨fun w => absurd gg0 w.1, fun w => absurd w.2 hxy⟩
      · rw [gn n q]
end RIS
