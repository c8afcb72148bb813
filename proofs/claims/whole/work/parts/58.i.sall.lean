/-! the reference: siftAll, asked, its making -/
theorem sumTo_le (f : Nat → Nat) {n i : Nat} (h : i < n) : f i ≤ sumTo f n := by
  induction n with
  | zero => omega
  | succ n ih =>
    rw [sumTo]
    by_cases e : i = n
    · subst e; omega
    · have := ih (by omega); omega
def oI (x : Option Nat) : Int32 := match x with
  | none => -1
  | some b => nI b
section SA
variable {ad : Nat → Nat} {S : Nat → Int32} {I : Nat → Nat → Int32} {b u : PS} {F : Nat → Nat → Bool} {o : Nat → Nat} {t : Int32} {n : Nat} {k10 k11 : Nat → Int32}
theorem q_M_sa_L12 {E : PS → Prop} (hE : ∀ (u' : PS) (A B : Nat → Int32), VM ad S (va_up (va_up I 10 A) 11 B) b u' → (∀ i : Nat, i < 10 → A i = I 9 i ∧ B i = 0) → E u') : ∀ (d j : Nat) (u : PS) (A B : Nat → Int32), j + d = 10 → VM ad S (va_up (va_up I 10 A) 11 B) b u → (∀ i : Nat, i < j → A i = I 9 i ∧ B i = 0) → p_M_siftAll_L12 (ad 0) E (d + 1) (nI j) u := by
  intro d
  induction d with
  | zero =>
    intro j u A B hj h hA
    obtain rfl : j = 10 := by omega
    rw [p_M_siftAll_L12]
    exact pk_le 10 10 (fun _ => hE u A B h hA) (fun h9 => absurd h9 (by omega))
  | succ d ih =>
    intro j u A B hj h hA
    rw [p_M_siftAll_L12]
    refine pk_le 10 j (fun h9 => absurd h9 (by omega)) (fun _ => ?_)
    refine ⟨_, h.fv rfl, _, h.fv rfl, _, h.ia 9 (by decide) (by decide) rfl (vp_in_nI (by show j < 10; omega) (by decide)), ?_⟩
    rw [nI_clamp (by omega), up_ne _ _ (by decide), up_ne _ _ (by decide)]
    obtain ⟨u1, s1, h1⟩ := h.is 10 (by decide) (by decide) rfl (j := nI j) (vp_in_nI (by show j < 10; omega) (by decide)) (I 9 j)
    refine ⟨u1, s1, _, h1.fv rfl, ?_⟩
    obtain ⟨u2, s2, h2⟩ := h1.zs 11 (by decide) (by decide) rfl (j := nI j) (vp_in_nI (by show j < 10; omega) (by decide)) (x := 0) (Or.inl rfl)
    refine ⟨u2, s2, nm_e ?_⟩
    rw [nI_1]
    rw [nI_clamp (by omega)] at h2
    have e : va_up (va_up (va_up (va_up I 10 A) 11 B) 10 (upd (va_up (va_up I 10 A) 11 B 10) j (I 9 j))) 11 (upd (va_up (va_up (va_up I 10 A) 11 B) 10 (upd (va_up (va_up I 10 A) 11 B 10) j (I 9 j)) 11) j 0) = va_up (va_up I 10 (upd A j (I 9 j))) 11 (upd B j 0) := by
      funext i
      by_cases c : i = 11
      · subst c
        rw [up_eq, up_eq, up_ne _ _ (by decide), up_eq]
      · rw [up_ne _ _ c, up_ne _ _ c]
        by_cases c2 : i = 10
        · subst c2
          rw [up_eq, up_eq, up_ne _ _ (by decide), up_eq]
        · rw [up_ne _ _ c2, up_ne _ _ c, up_ne _ _ c2, up_ne _ _ c2]
    rw [e] at h2
    refine ih (j + 1) u2 _ _ (by omega) h2 (fun i hi => ?_)
    by_cases c : i = j
    · subst c; rw [pk_us, pk_us]; exact ⟨rfl, rfl⟩
    · rw [pk_un c, pk_un c]; exact hA i (by omega)
theorem q_M_sa_L56 (h : VM ad S I b u) {kp : Nat → Nat} {dn : Nat → Bool} (h10 : ∀ i : Nat, i < 10 → I 10 i = nI (kp i)) (h11 : ∀ i : Nat, i < 10 → I 11 i = bI (dn i)) (hkp : ∀ i : Nat, i < 10 → kp i < 2 ^ 31) {x1 : Int32} {E : Int32 → PS → Prop} (hE : E (oI (pkD kp dn 10)) u) : ∀ (d c : Nat), c + d = 10 → p_M_siftAll_L56 (ad 0) x1 E (d + 1) (oI (pkD kp dn c)) (nI d + (-1)) u := by
  intro d
  induction d with
  | zero =>
    intro c hc
    obtain rfl : c = 10 := by omega
    rw [p_M_siftAll_L56]
    exact br_t (by decide) hE
  | succ d ih =>
    intro c hc
    have go := ih (c + 1) (by omega)
    rw [p_M_siftAll_L56, pk_m1]
    have e9 : 9 - c = d := by omega
    rw [pkD, e9] at go
    refine br_f (nI_pos (by omega)) ⟨_, h.fv rfl, _, h.za 11 (by decide) (by decide) rfl (vp_in_nI (by show d < 10; omega) (by decide)), ?_⟩
    rw [nI_clamp (by omega), h11 d (by omega)]
    unfold p_M_siftAll_J88 p_M_siftAll_J92 p_M_siftAll_J93
    cases hd : dn d
    · rw [hd] at go
      refine brn_t rfl ?_
      cases hp : pkD kp dn c with
      | none =>
        rw [hp] at go
        exact br_t (by decide) (nm_e go)
      | some m =>
        rw [hp] at go
        obtain ⟨m1, m2, -⟩ := (pkD_spec c (by omega)).2 m hp
        refine br_f (nI_pos (by omega)) ⟨_, h.fv rfl, _, h.ia 10 (by decide) (by decide) rfl (vp_in_nI (by show d < 10; omega) (by decide)), _, h.fv rfl, _, h.ia 10 (by decide) (by decide) rfl (vp_in_nI (show m < 10 by omega) (by decide)), ?_⟩
        rw [nI_clamp (by omega)]
        show (I 10 d < I 10 (nI m).toNatClampNeg → _) ∧ (¬ I 10 d < I 10 (nI m).toNatClampNeg → _)
        rw [nI_clamp (by omega), h10 d (by omega), h10 m m2]
        by_cases hk : kp m ≤ kp d
        · refine br_f (nI_nlt hk (hkp d (by omega))) (nm_e ?_)
          simp only [Bool.not_false, Bool.true_and, decide_eq_true hk, if_true] at go
          exact go
        · refine br_t (nI_lt (by omega) (hkp m m2)) (nm_e ?_)
          simp only [Bool.not_false, Bool.true_and, decide_eq_false hk, Bool.false_eq_true, if_false] at go
          exact go
    · rw [hd] at go
      refine brn_f (by decide) (nm_e ?_)
      exact go
theorem q_M_sa_L45 (ho : PO o) (hn : n + 1000 < 2 ^ 31) {kp : Nat → Nat} (h10 : ∀ i : Nat, i < 10 → k10 i = nI (kp i)) (hkp : ∀ i : Nat, i < 10 → kp i < 2 ^ 31) {E : PS → Prop} (hE : ∀ u' : PS, RM ad b F (saN F kp o 10).2 t (n + 1000) u' → E u') : ∀ (d j : Nat) (u : PS) (k11 : Nat → Int32), j + d = 10 → RK ad b F (saN F kp o j).2 t (n + 100 * j) k10 k11 u → (∀ i : Nat, i < 10 → k11 i = bI ((saN F kp o j).1 i)) → p_M_siftAll_L45 (ad 0) E (d + 1) (nI j) u := by
  intro d
  induction d with
  | zero =>
    intro j u k11 hj h hd
    obtain rfl : j = 10 := by omega
    rw [p_M_siftAll_L45]
    exact pk_le 10 10 (fun _ => hE u h.rm) (fun h9 => absurd h9 (by omega))
  | succ d ih =>
    intro j u k11 hj h hd
    rw [p_M_siftAll_L45]
    refine pk_le 10 j (fun h9 => absurd h9 (by omega)) (fun _ => ?_)
    obtain ⟨p, hp1, hp2, hp3, hp4⟩ := saN_pick F kp o (n := j) (by omega)
    have hPO := saN_PO (F := F) (kp := kp) ho j (by omega)
    obtain ⟨S, I, g, gF, gq, g0, g10, g11⟩ := h
    have go := q_M_sa_L56 (x1 := nI j) (E := fun y2_21 u_22 => p_M_siftAll_J100 (p_M_siftAll_L45 (ad 0) E (d + 1)) E (ad 0) (nI j) y2_21 u_22) (kp := kp) (dn := (saN F kp o j).1) g (by rw [g10]; exact h10) (by rw [g11]; exact hd) hkp ?_ 10 0 rfl
    · rw [show nI 10 + (-1) = (9 : Int32) from by decide] at go
      exact ⟨11, go⟩
    · rw [hp1]
      show p_M_siftAll_J100 _ E (ad 0) (nI j) (nI p) u
      unfold p_M_siftAll_J100
      obtain ⟨u1, s1, h1⟩ := g.zs 11 (by decide) (by decide) rfl (j := nI p) (vp_in_nI (by show p < 10; omega) (by decide)) (x := 1) (Or.inr rfl)
      rw [nI_clamp (by omega), g11] at h1
      have hR : RK ad b F (saN F kp o j).2 t (n + 100 * j) k10 (upd k11 p 1) u1 := ⟨S, _, h1, gF.made (by decide) _, gq.up _ (by decide) (by decide), g0, by rw [up_ne _ _ (by decide)]; exact g10, up_eq _ _ _⟩
      refine ⟨_, g.fv rfl, u1, s1, hR.ob, q_M_siftInput hR hPO hp3 (by omega) (fun u2 h2 => nm_e ?_)⟩
      rw [nI_1]
      refine ih (j + 1) u2 (upd k11 p 1) (by omega) ?_ (fun i hi => ?_)
      · rw [saN, hp2]
        exact h2.mono (by omega)
      · rw [saN, hp2]
        show upd k11 p 1 i = bI (if i = p then true else (saN F kp o j).1 i)
        by_cases c : i = p
        · subst c; rw [pk_us, if_pos rfl]; rfl
        · rw [pk_un c, if_neg c]; exact hd i hi
theorem q_M_siftAll (h : RM ad b F o t n u) (ho : PO o) (hn : n + 1020 < 2 ^ 31) {K : Int32 → PS → Prop} (hK : ∀ u' : PS, RM ad b F (saO F o) 0 (n + 1020) u' → K (nI (wh (PR 0 24) F (saO F o))) u') : p_M_siftAll (ad 0) u K := by
  obtain ⟨S, I, h, hF, hq, ht⟩ := h.un
  unfold p_M_siftAll
  obtain ⟨u1, s1, h1⟩ := h.pv 0 0 0 (by decide) rfl
  have hR : RM ad b F o 0 n u1 := RM.of h1 hF (hq.ups _ (by decide)) (up_eq _ _ _)
  obtain ⟨k10, k11, hR⟩ := hR.rk
  refine ⟨u1, s1, hR.ob, q_M_whole hR ho (by omega) (fun u2 h2 hw => ⟨11, ?_⟩)⟩
  obtain ⟨S2, I2, g, gF, gq, g0, g9, -⟩ := h2
  refine q_M_sa_L12 (S := S2) (I := I2) (b := b) (fun u3 A B h3 hAB => ?_) 10 0 u2 (I2 10) (I2 11) rfl (by rw [up_id, up_id]; exact g) (fun i hi => by omega)
  unfold p_M_siftAll_J43
  refine ⟨11, ?_⟩
  have hkp : ∀ i : Nat, i < 10 → kpO F o i < 2 ^ 31 := fun i hi => by
    have := sumTo_le (qn (PR 0 24) F o) (posO_spec ho hi).1
    have hw : sumTo (qn (PR 0 24) F o) 10 ≤ 24576 := hw
    unfold kpO
    omega
  refine q_M_sa_L45 (ad := ad) (b := b) (F := F) (t := 0) (n := n + 10) (k10 := A) (kp := kpO F o) ho (by omega) (fun i hi => ?_) hkp (fun u4 h4 => ?_) 10 0 u3 B rfl ⟨S2, _, h3, (gF.made (by decide) _).made (by decide) _, (gq.up _ (by decide) (by decide)).up _ (by decide) (by decide), g0, ?_, up_eq _ _ _⟩ (fun i hi => (hAB i hi).2)
  · rw [(hAB i hi).1]
    obtain ⟨p1, p2⟩ := posO_spec ho hi
    have := g9 _ p1
    rw [p2] at this
    exact this
  · unfold p_M_siftAll_J119
    obtain ⟨l10, l11, h5⟩ := h4.rk
    refine ⟨h5.ob, q_M_whole h5 (saN_PO ho 10 (Nat.le_refl _)) (by omega) (fun u5 h6 _ => hK u5 (h6.rm.mono (by omega)))⟩
  · rw [up_ne _ _ (by decide)]; exact up_eq _ _ _
/-! asked -/
noncomputable def askB (F : Nat → Nat → Bool) (o : Nat → Nat) (p v j : Nat) : Bool := @decide (dep (fx (bef o j) v.testBit (fnOf (F p))) (o j)) (Classical.propDecidable _)
theorem askB_iff {F : Nat → Nat → Bool} {o : Nat → Nat} {p v j : Nat} : askB F o p v j = true ↔ dep (fx (bef o j) v.testBit (fnOf (F p))) (o j) := @decide_eq_true_iff _ (Classical.propDecidable _)
theorem ask_iff (ho : PO o) {p v j B : Nat} (hv : v < 1024) (hj : j < 10) (hB : ∀ k : Nat, k < 10 → B.testBit k = bef o j k) : dep (fx (bef o j) v.testBit (fnOf (F p))) (o j) ↔ ∃ w : Nat, w < 1024 ∧ w &&& B = v &&& B ∧ F p w ≠ F p (setb w (o j) (!w.testBit (o j))) := by
  have hoj := ho.1 j hj
  have hbs := ho.bef_self hj
  have hmu : ∀ (x : Asg) (c : Bool), mix (bef o j) v.testBit (upA x (o j) c) = upA (mix (bef o j) v.testBit x) (o j) c := fun x c => by
    funext k
    unfold mix upA
    by_cases e : k = o j
    · subst e; rw [hbs, if_neg (by decide), if_pos rfl, if_pos rfl]
    · rw [if_neg e, if_neg e]
  rw [dep_iff]
  constructor
  · rintro ⟨x, hx⟩
    unfold fx fnOf at hx
    rw [hmu, hmu, num_setb _ hoj, num_setb _ hoj] at hx
    refine ⟨setb (numT (mix (bef o j) v.testBit x) 10) (o j) false, setb_10 _ (num_lt _) hoj, ?_, ?_⟩
    · refine Nat.eq_of_testBit_eq (fun k => ?_)
      rw [Nat.testBit_and, Nat.testBit_and, tb_setb]
      by_cases hk : k < 10
      · rw [hB k hk]
        cases hb : bef o j k
        · rw [Bool.and_false, Bool.and_false]
        · rw [Bool.and_true, Bool.and_true, if_neg (fun e => by rw [e, hbs] at hb; cases hb), tb_num10 _ hk]
          unfold mix
          rw [hb]; rfl
      · have z1 : v.testBit k = false := Nat.testBit_lt_two_pow (Nat.lt_of_lt_of_le hv (Nat.pow_le_pow_right (n := 2) (i := 10) (by omega) (by omega)))
        rw [if_neg (by omega), tb_num, decide_eq_false hk, Bool.false_and, z1]
    · rw [setb_setb, tb_setb, if_pos rfl]
      exact hx
  · rintro ⟨w, hw, h1, h2⟩
    refine ⟨w.testBit, ?_⟩
    have e : ∀ k : Nat, k < 10 → mix (bef o j) v.testBit w.testBit k = w.testBit k := fun k hk => by
      unfold mix
      cases hb : bef o j k
      · rfl
      · have := congrArg (fun z => z.testBit k) h1
        simp only [Nat.testBit_and] at this
        rw [hB k hk, hb, Bool.and_true, Bool.and_true] at this
        exact this.symm
    unfold fx fnOf
    rw [hmu, hmu, num_setb _ hoj, num_setb _ hoj, num_ext e, num_bits hw]
    cases c : w.testBit (o j)
    · rw [c] at h2
      rw [setb_self c]
      exact h2
    · rw [c] at h2
      rw [setb_self c]
      exact fun z => h2 z.symm
theorem q_M_isAsked (h : VM ad S I b u) (hF : MF F I) (h3 : ∀ i : Nat, i < 10 → I 3 i = nI (o i)) (ho : PO o) {p v j : Nat} (hp : p < 24) (hv : v < 1024) (hj : j < 10) {K : Int32 → PS → Prop} (hK : K (bI (askB F o p v j)) u) : p_M_isAsked (ad 0) (nI p) (nI v) (nI j) u K := by
  have go2 : ∀ B : Nat, B < 1024 → (∀ k : Nat, k < 10 → B.testBit k = bef o j k) → ∀ (d w : Nat) (c : Bool), w + d = 1024 → (c = true ↔ ∃ w' : Nat, w' < w ∧ w' &&& B = v &&& B ∧ F p w' ≠ F p (setb w' (o j) (!w'.testBit (o j)))) → p_M_isAsked_L38 (ad 0) (nI p) (nI v) (nI j) (nI B) (fun y5_16 u_17 => xZ y5_16 ∧ K y5_16 u_17) (d + 1) (bI c) (nI w) u := by
    intro B hB1 hB d
    induction d with
    | zero =>
      intro w c hw hc
      obtain rfl : w = 1024 := by omega
      rw [p_M_isAsked_L38]
      refine pk_le 1024 1024 (fun _ => ⟨bI_z _, ?_⟩) (fun h9 => absurd h9 (by omega))
      have : c = askB F o p v j := by
        have h1 := askB_iff (F := F) (o := o) (p := p) (v := v) (j := j)
        rw [ask_iff ho hv hj hB] at h1
        cases hx : askB F o p v j <;> cases c
        · rfl
        · exact absurd (h1.mpr (hc.mp rfl)) (by rw [hx]; decide)
        · exact absurd (hc.mpr (h1.mp hx)) (by decide)
        · rfl
      rw [this]
      exact hK
    | succ d ih =>
      intro w c hw hc
      rw [p_M_isAsked_L38]
      refine pk_le 1024 w (fun h9 => absurd h9 (by omega)) (fun _ => ?_)
      unfold p_M_isAsked_J89 p_M_isAsked_J93 p_M_isAsked_J94
      have next : ∀ c' : Bool, (c' = true ↔ c = true ∨ (w &&& B = v &&& B ∧ F p w ≠ F p (setb w (o j) (!w.testBit (o j))))) → ∀ x6_8 : Int32, x6_8 = nI w + 1 → p_M_isAsked_L38 (ad 0) (nI p) (nI v) (nI j) (nI B) (fun y5_16 u_17 => xZ y5_16 ∧ K y5_16 u_17) (d + 1) (bI c') x6_8 u := by
        intro c' hc'
        refine nm_e ?_
        rw [nI_1]
        refine ih (w + 1) c' (by omega) ?_
        rw [hc', hc]
        constructor
        · rintro (⟨w', a1, a2⟩ | a2)
          · exact ⟨w', by omega, a2⟩
          · exact ⟨w, by omega, a2⟩
        · rintro ⟨w', a1, a2⟩
          by_cases e : w' = w
          · subst e; exact Or.inr a2
          · exact Or.inl ⟨w', by omega, a2⟩
      cases c
      · refine brn_t rfl ?_
        rw [nx_and, nx_and]
        have le1 : w &&& B ≤ w := Nat.and_le_left
        have le2 : v &&& B ≤ v := Nat.and_le_left
        by_cases e : w &&& B = v &&& B
        · refine brn_t (by rw [e]) ⟨h.ob, q_M_is h hF hp (by omega) ⟨_, h.fv rfl, _, h.ia 3 (by decide) (by decide) rfl (vp_in_nI (by show j < 10; omega) (by decide)), h.ob, ?_⟩⟩
          have hoj := ho.1 j hj
          rw [nI_clamp (by omega), h3 j hj, nI_flip (by omega)]
          refine q_M_is h hF hp (setb_10 _ (by omega) hoj) ?_
          by_cases e2 : F p w = F p (setb w (o j) (!w.testBit (o j)))
          · refine br_t (bI_inj.mpr e2) (next false ⟨fun z => (by cases z), ?_⟩)
            rintro (z | z)
            · exact z
            · exact absurd e2 z.2
          · exact br_f (fun z => e2 (bI_inj.mp z)) (next true ⟨fun _ => Or.inr ⟨e, e2⟩, fun _ => rfl⟩)
        · refine brn_f (fun z => e ((nI_eq (by omega) (by omega)).mp z)) (next false ⟨fun z => (by cases z), ?_⟩)
          rintro (z | z)
          · exact z
          · exact absurd z.1 e
      · exact brn_f (by decide) (next true ⟨fun _ => Or.inl rfl, fun _ => rfl⟩)
  have go1 : ∀ (d i B : Nat), i + d = j → B < 1024 → (∀ k : Nat, k < 10 → B.testBit k = bef o i k) → p_M_isAsked_L6 (ad 0) (nI p) (nI v) (nI j) (fun y4_6 u_7 => p_M_isAsked_J32 K (ad 0) (nI p) (nI v) (nI j) y4_6 u_7) (d + 1) (nI B) (nI i) u := by
    intro d
    induction d with
    | zero =>
      intro i B hi hB1 hB
      obtain rfl : i = j := by omega
      rw [p_M_isAsked_L6]
      refine br_t (nI_le (Nat.le_refl _) (by omega)) ⟨1025, go2 B hB1 hB 1024 0 false rfl ⟨fun z => (by cases z), fun ⟨w', a1, _⟩ => by omega⟩⟩
    | succ d ih =>
      intro i B hi hB1 hB
      rw [p_M_isAsked_L6]
      refine br_f (nI_ge (show i < j by omega) (by omega)) ⟨_, h.fv rfl, _, h.ia 3 (by decide) (by decide) rfl (vp_in_nI (by show i < 10; omega) (by decide)), nm_e (nm_e ?_)⟩
      have hoi := ho.1 i (by omega)
      rw [nI_clamp (by omega), h3 i (by omega), nI_1, nI_set1 (by omega)]
      refine ih (i + 1) _ (by omega) (setb_10 _ hB1 hoi) (fun k hk => ?_)
      rw [tb_setb, bef_s]
      by_cases e : k = o i
      · subst e; rw [if_pos rfl]; simp
      · rw [if_neg e, hB k hk, beq_eq_false_iff_ne.mpr (Ne.symm e), Bool.or_false]
  exact ⟨j + 1, go1 j 0 0 (by omega) (by omega) (fun k _ => by rw [Nat.zero_testBit]; rfl)⟩
/-- question i of those that are asked -/
def askF (q : Nat → Bool) (o : Nat → Nat) (i : Int32) : Nat → Nat → Nat → Int32
  | 0, _, _ => -1
  | d + 1, j, m => if q j then (if nI m = i then nI (o j) else askF q o i d (j + 1) (m + 1)) else askF q o i d (j + 1) m
noncomputable def sp_asked (x y z : Int32) (F : Nat → Nat → Bool) (o : Nat → Nat) : Int32 × Int32 := if okP x && decide (¬ z < 0) then if okW y then (0, askF (askB F o x.toNatClampNeg y.toNatClampNeg) o z 10 0 0) else (2, 0) else (1, 0)
theorem q_M_asked (h : RM ad b F o t n u) (ho : PO o) {x y z : Int32} {K : Int32 → PS → Prop} (hK : ∀ u' : PS, RM ad b F o (sp_asked x y z F o).1 n u' → K (sp_asked x y z F o).2 u') : p_M_asked (ad 0) x y z u K := by
  obtain ⟨S, I, h, hF, hq, ht⟩ := h.un
  have j : ∀ c d : Bool, c = (!(okP x && decide (¬ z < 0))) → d = (okP x && decide (¬ z < 0) && !okW y) → p_M_asked_J50 K (ad 0) x y z (ad 0) (bI c) (bI d) u := by
    intro c d hc hd
    refine ⟨h.ob, q_M_rf2 h hF hq (fun u' hcd h' => ?_) (fun u' S' hc' hd' h' hq' h0 hR => ?_)⟩
    · have e : sp_asked x y z F o = ((if c then 1 else 2), 0) := by
        unfold sp_asked
        subst hc hd
        generalize (okP x && decide (¬ z < 0)) = q at hcd ⊢
        generalize okW y = r at hcd ⊢
        cases q <;> cases r <;> first | rfl | exact absurd hcd (by decide)
      have := hK u'
      rw [e] at this
      exact this h'
    · subst hc hd
      have hx := ts_b hc'
      have hy : okW y = true := by rw [hx] at hd'; exact ts_b hd'
      have hx3 := hx
      simp only [Bool.and_eq_true] at hx3
      obtain ⟨p, hp, rfl⟩ := okP_nI hx3.1
      obtain ⟨v, hv, rfl⟩ := okW_nI hy
      have e : sp_asked (nI p) (nI v) z F o = (0, askF (askB F o p v) o z 10 0 0) := by
        unfold sp_asked
        rw [if_pos hx, if_pos hy, nI_clamp (by omega), nI_clamp (by omega)]
      have hK' := hK u'
      rw [e] at hK'
      have hK'' := hK' hR
      have go : ∀ (d i m : Nat), i + d = 10 → K (askF (askB F o p v) o z d i m) u' → p_M_asked_L64 (ad 0) (nI p) (nI v) z (fun y6_10 u_11 => p_M_asked_J88 K (ad 0) y6_10 u_11) (fun u_14 => K (-1 : Int32) u_14) (d + 1) (nI m) (nI i) u' := by
        intro d
        induction d with
        | zero =>
          intro i m hi hk
          obtain rfl : i = 10 := by omega
          rw [p_M_asked_L64]
          exact pk_le 10 10 (fun _ => hk) (fun h9 => absurd h9 (by omega))
        | succ d ih =>
          intro i m hi hk
          rw [p_M_asked_L64]
          refine pk_le 10 i (fun h9 => absurd h9 (by omega)) (fun _ => ?_)
          refine ⟨h'.ob, q_M_isAsked h' hF hq'.1 ho hp hv (by omega) ?_⟩
          unfold p_M_asked_J99
          rw [askF] at hk
          cases c : askB F o p v i
          · rw [c] at hk
            refine br_t rfl (nm_e ?_)
            rw [nI_1]
            exact ih (i + 1) m (by omega) hk
          · rw [c] at hk
            refine br_f (by decide) ?_
            by_cases e : nI m = z
            · rw [if_pos rfl, if_pos e] at hk
              refine brn_t e ⟨_, h'.fv rfl, _, h'.ia 3 (by decide) (by decide) rfl (vp_in_nI (by show i < 10; omega) (by decide)), ?_⟩
              rw [nI_clamp (by omega), hq'.1 i (by omega)]
              exact hk
            · rw [if_pos rfl, if_neg e] at hk
              refine brn_f e (nm_e (nm_e ?_))
              rw [nI_1, nI_1]
              exact ih (i + 1) (m + 1) (by omega) hk
      exact ⟨11, go 10 0 0 rfl hK''⟩
  unfold p_M_asked p_M_asked_J15 p_M_asked_J16 p_M_asked_J29 p_M_asked_J49
  simp only [e_isPlace, e_in, e_okW]
  cases hx : okP x
  · exact br_t rfl (brn_t (by decide) (br_t (by decide) (j true false (by rw [hx]; rfl) (by rw [hx]; rfl))))
  · refine br_f (by decide) ?_
    by_cases hz : z < 0
    · exact br_t hz (brn_t (by decide) (br_t (by decide) (j true false (by rw [hx, decide_eq_false (fun q => q hz)]; rfl) (by rw [hx, decide_eq_false (fun q => q hz)]; rfl))))
    · refine br_f hz (brn_f (by decide) (br_f (by decide) ?_))
      cases hk : okW y
      · exact brn_t rfl (j false true (by rw [hx, decide_eq_true hz]; rfl) (by rw [hx, hk, decide_eq_true hz]; rfl))
      · exact brn_f (by decide) (j false false (by rw [hx, decide_eq_true hz]; rfl) (by rw [hx, hk, decide_eq_true hz]; rfl))
theorem q_M_thrown (h : RM ad b F o t n u) {K : Int32 → PS → Prop} (hK : K t u) : p_M_thrown (ad 0) u K := by
  obtain ⟨S, I, h, -, -, ht⟩ := h.un
  exact ⟨S 0, h.fv rfl, by rw [ht]; exact hK⟩
end SA
