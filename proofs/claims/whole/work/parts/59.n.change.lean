/-! change(): neighbours of the order -/
section CHG
variable {ad S : Nat → Nat} {I : Nat → Nat → Nat} {ln : Nat → Nat} {L : Nat → Nat → Int64} {E : (Nat → Prop) × (Nat → Option PE)} {z R : Nat × Nat} {u : PS} {e : Nat} {g rt xt : Nat → Nat} {D : Nat → Fn} {T : Nat → Prop} {o o' : Nat → Nat} {i : Nat}
theorem DS.t (h : DS e g T S I ln) {T' : Nat → Prop} (hT : ∀ m : Nat, T' m ↔ T m) : DS e g T' S I ln := by
  have : T' = T := funext (fun m => propext (hT m))
  rw [this]; exact h
/-- whether a node of x leads to y -/
theorem before_y (hs : SW o o' i) (ho : PO o) (hc : CAN (W2 o o') g D) {n : Nat} (hn : g n ≠ 0) (hk : nk (g n) = o i) : (kd g (n1 (g n)) = o (i + 1) ∨ kd g (n0 (g n)) = o (i + 1)) ↔ dep (D n) (o (i + 1)) := by
  have h9 := hs.1
  have hy10 : o (i + 1) < 10 := ho.1 (i + 1) (by omega)
  have hxy : o i ≠ o (i + 1) := fun q => by have := ho.2 i (i + 1) (by omega) (by omega) q; omega
  obtain ⟨_, f2⟩ := turn_facts hs ho hc hn hk
  have c0 : D (n0 (g n)) = cof (o i) false (D n) := by rw [← hc.c0 hn, hk]
  have c1 : D (n1 (g n)) = cof (o i) true (D n) := by rw [← hc.c1 hn, hk]
  constructor
  · rintro (q | q)
    · obtain ⟨a, b⟩ := kd_live hc hy10 (hc.i1 hn) q
      have := hc.dp a
      rw [b, c1] at this
      exact cof_dep this
    · obtain ⟨a, b⟩ := kd_live hc hy10 (hc.i0 hn) q
      have := hc.dp a
      rw [b, c0] at this
      exact cof_dep this
  · intro hd
    refine Classical.byContradiction (fun q => ?_)
    have d0 := (f2 _ (Or.inl rfl)).1 (fun w => q (Or.inr w))
    have d1 := (f2 _ (Or.inr rfl)).1 (fun w => q (Or.inl w))
    have e := ite_cof (o i) (D n)
    rw [← c0, ← c1] at e
    rw [← e] at hd
    rcases ite_dep hd with w | w | w
    · exact hxy w.symm
    · exact d0 w
    · exact d1 w
/-- while nodes are taken: j of them looked at, s stay, l taken -/
def TK (e : Nat) (g : Nat → Nat) (D : Nat → Fn) (x y : Nat) (I0 I : Nat → Nat → Nat) (j s t : Nat) (l : List Nat) : Prop :=
  (∀ i : Nat, i ≠ 10 → i ≠ 11 → i ≠ 12 → i ≠ 14 + x → I i = I0 i) ∧ HT e (I 11) (I 12) (fun m => g m ≠ 0 ∧ m ∉ l) g ∧ (∀ m : Nat, g m = 0 → I 11 m = I0 11 m) ∧ chn (I 11) t l ∧ l.Nodup ∧ (∀ m : Nat, m ∈ l → g m ≠ 0 ∧ nk (g m) = x ∧ dep (D m) y ∧ ∃ i : Nat, i < j ∧ I0 (14 + x) i = m) ∧ (∀ i : Nat, j ≤ i → i < I0 9 x → I (14 + x) i = I0 (14 + x) i ∧ I 10 (I0 (14 + x) i) = i) ∧ (∀ i : Nat, i < s → g (I (14 + x) i) ≠ 0 ∧ I (14 + x) i ∉ l ∧ nk (g (I (14 + x) i)) = x ∧ I 10 (I (14 + x) i) = i ∧ ¬ dep (D (I (14 + x) i)) y) ∧ (∀ i : Nat, i < j → I0 (14 + x) i ∈ l ∨ (I 10 (I0 (14 + x) i) < s ∧ I (14 + x) (I 10 (I0 (14 + x) i)) = I0 (14 + x) i)) ∧ (∀ m : Nat, g m ≠ 0 → nk (g m) ≠ x → I 10 m = I0 10 m) ∧ l.length + s = j
theorem q_N_take_L (sh : SH R S ln z e) (ds : DS e g (fun _ => False) S I ln) (hs : SW o o' i) (ho : PO o) (hc : CAN (W2 o o') g D)
    {X : Int32 → Int32 → PS → Prop} (hX : ∀ (u' : PS) (I' : Nat → Nat → Nat) (s t : Nat) (l : List Nat), VC 69 ad S I' ln L E z u' → TK e g D (o i) (o (i + 1)) I I' (I 9 (o i)) s t l → X (nI s) (nI t) u') : ∀ (d j : Nat) (u : PS) (I' : Nat → Nat → Nat) (s t : Nat) (l : List Nat), j + d = I 9 (o i) → VC 69 ad S I' ln L E z u → TK e g D (o i) (o (i + 1)) I I' j s t l → p_N_takeThoseBefore_L30 (ad 4) (nI (o i)) (nI (o (i + 1))) (ad 7) (ad (14 + o i)) (nI (I 9 (o i))) X (d + 1) (nI s) (nI t) (nI j) u := by
  have hle := sh.le
  have h9 := hs.1
  have hx10 : o i < 10 := ho.1 i (by omega)
  have hy10 : o (i + 1) < 10 := ho.1 (i + 1) (by omega)
  obtain ⟨d1, d2, d3, d4, d5, d6, d7, d8⟩ := id ds
  have lx := sh.2.2.2.2.1 (o i) hx10
  have lc := d8 (o i) hx10
  have kb : ∀ c : Nat, IN g c → kd g c < 11 := fun c hcc => by
    unfold kd
    split
    · omega
    · rcases hcc with q | q
      · omega
      · have := hc.k q; omega
  intro d
  induction d with
  | zero =>
    intro j u I' s t l hj h tk
    obtain rfl : j = I 9 (o i) := by omega
    rw [p_N_takeThoseBefore_L30]
    exact pk_le (I 9 (o i)) (I 9 (o i)) (fun _ => hX u I' s t l h tk) (fun w => absurd w (by omega))
  | succ d ih =>
    intro j u I' s t l hj h tk
    rw [p_N_takeThoseBefore_L30]
    refine pk_le (I 9 (o i)) j (fun w => absurd w (by omega)) (fun _ => ?_)
    obtain ⟨k1, k2, k3, k4, k5, k6, k7, k8, k9, k10, k11⟩ := id tk
    obtain ⟨m1, m2, m3⟩ := d7.1 (o i) j hx10 (by omega)
    dsimp only at m1 m2 m3
    generalize hn : I (14 + o i) j = n at m1 m2 m3
    have hg := m1.1
    have rr1 := h.ia (14 + o i) (by omega) (ii (by omega)) (j := j) (by omega) (by omega)
    rw [(k7 j (Nat.le_refl _) (by omega)).1, hn] at rr1
    have I7 : I' 7 = I 7 := k1 7 (by decide) (by decide) (by decide) (by omega)
    have nlt := ds.inlt sh (Or.inr hg)
    have i0 := hc.i0 hg
    have i1 := hc.i1 hg
    have ra := h.nia sh 7 n7 nlt
    rw [I7, ds.cg (Or.inr hg), cg_lt (hc.ge hg)] at ra
    have w32 := (d3 n hg).2.2
    have rb := h.nia sh 7 n7 (ds.inlt sh i1)
    rw [I7, ds.cg i1] at rb
    have rc0 := h.nia sh 7 n7 (ds.inlt sh i0)
    rw [I7, ds.cg i0] at rc0
    have by1 := before_y hs ho hc hg m2
    have kf : KF e (I' 7) (fun m => g m ≠ 0 ∧ m ∉ l) g := fun m hm => by
      have q := ds.kf m ⟨hm.1, fun q => q⟩
      rw [I7]; exact q
    have nl : n ∉ l := fun q => by
      obtain ⟨_, _, _, a, a1, a2⟩ := k6 n q
      have b := (d7.1 (o i) a hx10 (by omega)).2.2
      dsimp only at b
      rw [a2, m3] at b
      omega
    -- a node that is taken
    have tak : dep (D n) (o (i + 1)) → p_N_takeThoseBefore_J105 (p_N_takeThoseBefore_L30 (ad 4) (nI (o i)) (nI (o (i + 1))) (ad 7) (ad (14 + o i)) (nI (I 9 (o i))) X (d + 1)) X (ad 4) (nI (o i)) (nI (o (i + 1))) (ad 7) (ad (14 + o i)) (nI (I 9 (o i))) (nI s) (nI t) (nI j) (nI n) u := by
      intro hd
      unfold p_N_takeThoseBefore_J105
      refine ⟨h.obN (by decide), q_N_unlink h sh k2 kf ⟨hg, nl⟩ (fun u1 nx hd1 h1 ht1 hx1 => ?_)⟩
      obtain ⟨u2, s2, h2⟩ := h1.nis sh 11 n11 nlt t
      refine ⟨_, h1.fN (by decide) rfl, u2, s2, ?_⟩
      unfold p_N_takeThoseBefore_J124
      refine nm_e ?_
      rw [nI_1]
      have g11 : va_up (va_up I' 11 nx) 12 hd1 11 = nx := rfl
      rw [g11] at h2
      generalize hJ : va_up (va_up (va_up I' 11 nx) 12 hd1) 11 (va_up nx n t) = J at h2
      have J11 : J 11 = va_up nx n t := by rw [← hJ, up_eq]
      have J12 : J 12 = hd1 := by rw [← hJ]; rfl
      have Jo : ∀ a : Nat, a ≠ 11 → a ≠ 12 → J a = I' a := fun a q1 q2 => by rw [← hJ, up_ne _ _ q1, up_ne _ _ q2, up_ne _ _ q1]
      have J10 : J 10 = I' 10 := Jo 10 (by decide) (by decide)
      have Jx : J (14 + o i) = I' (14 + o i) := Jo _ (by omega) (by omega)
      refine ih (j + 1) u2 J s n (n :: l) (by omega) h2 ⟨fun a q1 q2 q3 q4 => (Jo a q2 q3).trans (k1 a q1 q2 q3 q4), ?_, fun m hm => ?_, ?_, List.nodup_cons.mpr ⟨nl, k5⟩, fun m hm => ?_, fun a q1 q2 => ?_, fun a q1 => ?_, fun a q1 => ?_, fun m q1 q2 => ?_, by rw [List.length_cons]; omega⟩
      · rw [J11, J12]
        refine ht1.congr (fun m => ?_) (fun _ _ => rfl) (fun m hm => up_ne _ _ hm.2)
        rw [List.mem_cons]
        constructor
        · rintro ⟨q1, q2⟩; exact ⟨⟨q1, fun w => q2 (Or.inr w)⟩, fun w => q2 (Or.inl w)⟩
        · rintro ⟨⟨q1, q2⟩, q3⟩; exact ⟨q1, fun w => w.elim q3 q2⟩
      · have : m ≠ n := fun q => hg (q ▸ hm)
        rw [J11, up_ne _ _ this, hx1 m (fun q => q.1.1 hm)]
        exact k3 m hm
      · rw [J11]
        refine ⟨rfl, by have := hc.ge hg; omega, ?_⟩
        rw [up_eq]
        refine chn_congr l _ (fun a ha => ?_) k4
        rw [up_ne _ _ (fun q : a = n => nl (by rw [← q]; exact ha))]
        exact hx1 a (fun q => q.1.2 ha)
      · rcases List.mem_cons.mp hm with rfl | hm
        · exact ⟨hg, m2, hd, j, by omega, hn⟩
        · obtain ⟨q1, q2, q3, a, q4, q5⟩ := k6 m hm
          exact ⟨q1, q2, q3, a, by omega, q5⟩
      · rw [Jx, J10]; exact k7 a (by omega) q2
      · rw [Jx, J10]
        obtain ⟨b1, b2, b3, b4, b5⟩ := k8 a q1
        refine ⟨b1, fun q => ?_, b3, b4, b5⟩
        rcases List.mem_cons.mp q with q | q
        · rw [q] at b5; exact b5 hd
        · exact b2 q
      · rw [Jx, J10, List.mem_cons]
        by_cases q : a = j
        · subst q; exact Or.inl (Or.inl hn)
        · rcases k9 a (by omega) with w | w
          · exact Or.inl (Or.inr w)
          · exact Or.inr w
      · rw [J10]; exact k10 m q1 q2
    refine ⟨_, rr1, _, ra, ?_⟩
    rw [nI_n1]
    refine ⟨_, rb, ?_⟩
    rw [nI_nk (ds.cglt i1), nk_cg, nI_n0 w32]
    have kb1 := kb _ i1
    have kb0 := kb _ i0
    refine eqn (by omega) (by omega) (fun q1 => tak (by1.mp (Or.inl q1))) (fun q1 => ⟨_, rc0, ?_⟩)
    rw [nI_nk (ds.cglt i0), nk_cg]
    refine eqn (by omega) (by omega) (fun q0 => tak (by1.mp (Or.inr q0))) (fun q0 => ?_)
    have hnd : ¬ dep (D n) (o (i + 1)) := fun w => (by1.mpr w).elim q1 q0
    obtain ⟨u1, s1, h1⟩ := h.isx (14 + o i) (by omega) (ii (by omega)) (j := s) (by omega) (by omega) n
    refine ⟨u1, s1, _, h1.fN (by decide) rfl, ?_⟩
    obtain ⟨u2, s2, h2⟩ := h1.nis sh 10 n10 nlt s
    refine ⟨u2, s2, nm_e ?_⟩
    unfold p_N_takeThoseBefore_J124
    refine nm_e ?_
    rw [nI_1, nI_1]
    rw [up_ne I' _ (show (10 : Nat) ≠ 14 + o i by omega)] at h2
    generalize hJ : va_up (va_up I' (14 + o i) (va_up (I' (14 + o i)) s n)) 10 (va_up (I' 10) n s) = J at h2
    have J10 : J 10 = va_up (I' 10) n s := by rw [← hJ, up_eq]
    have Jx : J (14 + o i) = va_up (I' (14 + o i)) s n := by rw [← hJ, up_ne _ _ (by omega), up_eq]
    have Jo : ∀ a : Nat, a ≠ 10 → a ≠ 14 + o i → J a = I' a := fun a q1 q2 => by rw [← hJ, up_ne _ _ q1, up_ne _ _ q2]
    have J11 : J 11 = I' 11 := Jo 11 (by decide) (by omega)
    have J12 : J 12 = I' 12 := Jo 12 (by decide) (by omega)
    have rn : ∀ a : Nat, a < I 9 (o i) → a ≠ j → I (14 + o i) a ≠ n := fun a q1 q2 q3 => by
      have b := (d7.1 (o i) a hx10 q1).2.2
      dsimp only at b
      rw [q3, m3] at b
      omega
    have sn : ∀ a : Nat, a < s → I' (14 + o i) a ≠ n := fun a q1 q2 => by
      have b4 := (k8 a q1).2.2.2.1
      have b7 := (k7 j (Nat.le_refl _) (by omega)).2
      rw [hn] at b7
      rw [q2, b7] at b4
      omega
    refine ih (j + 1) u2 J (s + 1) t l (by omega) h2 ⟨fun a q1 q2 q3 q4 => (Jo a q1 q4).trans (k1 a q1 q2 q3 q4), ?_, fun m hm => ?_, ?_, k5, fun m hm => ?_, fun a q1 q2 => ?_, fun a q1 => ?_, fun a q1 => ?_, fun m q1 q2 => ?_, by omega⟩
    · rw [J11, J12]; exact k2
    · rw [J11]; exact k3 m hm
    · rw [J11]; exact k4
    · obtain ⟨q1, q2, q3, a, q4, q5⟩ := k6 m hm
      exact ⟨q1, q2, q3, a, by omega, q5⟩
    · rw [Jx, J10, up_ne _ _ (by omega), up_ne _ _ (rn a q2 (by omega))]
      exact k7 a (by omega) q2
    · rw [Jx, J10]
      by_cases c : a = s
      · subst c; rw [up_eq, up_eq]; exact ⟨hg, nl, m2, rfl, hnd⟩
      · rw [up_ne _ _ c, up_ne _ _ (sn a (by omega))]; exact k8 a (by omega)
    · rw [Jx, J10]
      by_cases c : a = j
      · subst c; rw [hn, up_eq, up_eq]; exact Or.inr ⟨by omega, rfl⟩
      · rw [up_ne (I' 10) _ (rn a (by omega) c)]
        rcases k9 a (by omega) with w | w
        · exact Or.inl w
        · exact Or.inr ⟨by omega, by rw [up_ne _ _ (by omega)]; exact w.2⟩
    · rw [J10, up_ne _ _ (fun q => q2 (by rw [q]; exact m2))]
      exact k10 m q1 q2
/-- those of x that lead to y are taken -/
theorem q_N_takeThose (h : VC 69 ad S I ln L E z u) (sh : SH R S ln z e) (ds : DS e g (fun _ => False) S I ln) (hs : SW o o' i) (ho : PO o) (hc : CAN (W2 o o') g D)
    {Q : Int32 → PS → Prop} (hQ : ∀ (u' : PS) (I' : Nat → Nat → Nat) (t : Nat) (l : List Nat), VC 69 ad S I' ln L E z u' → DS e g (fun m => m ∈ l) S I' ln → TT o i g D (fun m => m ∈ l) → chn (I' 11) t l → l.Nodup → l.length ≤ I 9 (o i) → FN S I S I' → I' 8 = I 8 → Q (nI t) u') : p_N_takeThoseBefore (ad 4) (nI (o i)) (nI (o (i + 1))) u Q := by
  have hle := sh.le
  have h9 := hs.1
  have hx10 : o i < 10 := ho.1 i (by omega)
  obtain ⟨d1, d2, d3, d4, d5, d6, d7, d8⟩ := id ds
  have l9 : ln 9 = 10 := sh.2.2.1.2.2.1
  have r9 := h.ia 9 (by decide) (ii (by decide)) (j := o i) (by omega) (by omega)
  unfold p_N_takeThoseBefore
  refine ⟨_, h.fN (by decide) rfl, _, h.fN (by decide) rfl, _, h.rm (by decide) hx10, _, h.fN (by decide) rfl, _, r9, I 9 (o i) + 1, ?_⟩
  refine q_N_take_L sh ds hs ho hc (fun u1 I1 s t l h1 tk => ?_) (I 9 (o i)) 0 u I 0 0 [] (by omega) h ⟨fun _ _ _ _ _ => rfl, ?_, fun _ _ => rfl, rfl, List.nodup_nil, fun m hm => absurd hm List.not_mem_nil, fun a _ q => ⟨rfl, (d7.1 (o i) a hx10 q).2.2⟩, fun a q => absurd q (by omega), fun a q => absurd q (by omega), fun _ _ _ => rfl, rfl⟩
  · obtain ⟨k1, k2, k3, k4, k5, k6, k7, k8, k9, k10, k11⟩ := tk
    unfold p_N_takeThoseBefore_J130
    obtain ⟨u2, s2, h2⟩ := h1.isx 9 (by decide) (ii (by decide)) (j := o i) (by omega) (by omega) s
    refine ⟨_, h1.fN (by decide) rfl, u2, s2, ?_⟩
    generalize hJ : va_up I1 9 (va_up (I1 9) (o i) s) = J at h2
    have I19 : I1 9 = I 9 := k1 9 (by decide) (by decide) (by decide) (by omega)
    have J9 : J 9 = va_up (I 9) (o i) s := by rw [← hJ, up_eq, I19]
    have Jo : ∀ a : Nat, a ≠ 9 → J a = I1 a := fun a q => by rw [← hJ, up_ne _ _ q]
    have J7 : J 7 = I 7 := (Jo 7 (by decide)).trans (k1 7 (by decide) (by decide) (by decide) (by omega))
    have J8 : J 8 = I 8 := (Jo 8 (by decide)).trans (k1 8 (by decide) (by decide) (by decide) (by omega))
    have J13 : J 13 = I 13 := (Jo 13 (by decide)).trans (k1 13 (by decide) (by decide) (by decide) (by omega))
    have J10 : J 10 = I1 10 := Jo 10 (by decide)
    have J11 : J 11 = I1 11 := Jo 11 (by decide)
    have J12 : J 12 = I1 12 := Jo 12 (by decide)
    have Jx : J (14 + o i) = I1 (14 + o i) := Jo _ (by omega)
    have Jm : ∀ k : Nat, k ≠ o i → J (14 + k) = I (14 + k) := fun k q => (Jo _ (by omega)).trans (k1 _ (by omega) (by omega) (by omega) (by omega))
    have row : ∀ m : Nat, g m ≠ 0 → m ∉ l → nk (g m) = o i → I1 10 m < s ∧ I1 (14 + o i) (I1 10 m) = m := fun m q1 q2 q3 => by
      obtain ⟨a1, a2, a3⟩ := d7.2 m ⟨q1, fun w => w⟩
      rw [q3] at a2 a3
      dsimp only at a3
      rcases k9 _ a2 with w | w
      · rw [a3] at w; exact absurd w q2
      · rw [a3] at w; exact w
    have hsc : s ≤ I 9 (o i) := by omega
    refine hQ u2 J t l h2 ⟨fun n a b => by rw [J7]; exact d1 n a b, by rw [J7]; exact d2, d3, d4, by rw [J11, J12]; exact k2, ?_, ⟨fun k a q1 q2 => ?_, fun n hn => ?_⟩, fun k hk => ?_⟩ ⟨fun m hm => ?_, fun m q1 q2 q3 q4 => ?_⟩ (by rw [J11]; exact k4) k5 (by omega) ⟨fun a ha => (Jo a (by omega)).trans (k1 a (by omega) (by omega) (by omega) (by omega)), fun _ _ _ _ => rfl, J13⟩ J8
    · rw [J11]
      obtain ⟨f, f1, f2, f3, f4⟩ := d6
      exact ⟨f, chn_congr f _ (fun a ha => k3 a ((f3 a).mp ha).2.2) f1, f2, f3, f4⟩
    · dsimp only
      rw [J9] at q2
      by_cases c : k = o i
      · subst c
        rw [up_eq] at q2
        obtain ⟨b1, b2, b3, b4, b5⟩ := k8 a q2
        rw [Jx, J10]
        exact ⟨⟨b1, b2⟩, b3, b4⟩
      · rw [up_ne _ _ c] at q2
        obtain ⟨b1, b2, b3⟩ := d7.1 k a q1 q2
        dsimp only at b1 b2 b3
        rw [Jm k c, J10, k10 _ b1.1 (by rw [b2]; exact c)]
        exact ⟨⟨b1.1, fun w => c (by rw [← b2]; exact (k6 _ w).2.1)⟩, b2, b3⟩
    · dsimp only at hn ⊢
      obtain ⟨a1, a2, a3⟩ := d7.2 n ⟨hn.1, fun w => w⟩
      dsimp only at a3
      refine ⟨a1, ?_⟩
      by_cases c : nk (g n) = o i
      · obtain ⟨b1, b2⟩ := row n hn.1 hn.2 c
        rw [c, J9, up_eq, Jx, J10]
        exact ⟨b1, b2⟩
      · rw [J9, up_ne _ _ c, Jm _ c, J10, k10 n hn.1 c]
        exact ⟨a2, a3⟩
    · rw [J9]
      have := d8 k hk
      by_cases c : k = o i
      · subst c; rw [up_eq]; omega
      · rw [up_ne _ _ c]; exact this
    · obtain ⟨b1, b2, b3, _⟩ := k6 m hm
      exact ⟨b1, b2, b3⟩
    · obtain ⟨b1, b2⟩ := row m q1 q2 q3
      have b := (k8 _ b1).2.2.2.2
      rw [b2] at b
      exact b q4
  · refine d5.congr (fun m => ⟨fun q => ⟨q.1, fun w => w⟩, fun q => ⟨q.1, List.not_mem_nil⟩⟩) (fun _ _ => rfl) (fun _ _ => rfl)
/-- all that is taken is turned -/
theorem q_N_change_L (hs : SW o o' i) (ho : PO o) {B : Nat}
    {X : PS → Prop} (hX : ∀ (u' : PS) (ad' S' : Nat → Nat) (I' : Nat → Nat → Nat) (ln' : Nat → Nat) (z' : Nat × Nat) (g' : Nat → Nat) (D' : Nat → Fn), VC 69 ad' S' I' ln' L E z' u' → SH R S' ln' z' e → DS e g' (fun m => m ∈ []) S' I' ln' → RC e g' rt (fun _ => 0) (I' 8) → CAN (W2 o o') g' D' → TT o i g' D' (fun m => m ∈ []) → (∀ m : Nat, g' m ≠ 0 → LED g' rt m) → (∀ p : Nat, p < 24 → IN g (rt p) → IN g' (rt p) ∧ D' (rt p) = D (rt p)) → FN S I S' I' → FA ad ln ad' ln' → S' 9 ≤ B → X u') :
    ∀ (l : List Nat) (s t : Nat) (u : PS) (ad1 S1 : Nat → Nat) (I1 : Nat → Nat → Nat) (ln1 : Nat → Nat) (z1 : Nat × Nat) (g1 : Nat → Nat) (D1 : Nat → Fn), s + l.length < 16384 → chn (I1 11) t l → l.Nodup → VC 69 ad1 S1 I1 ln1 L E z1 u → SH R S1 ln1 z1 e → DS e g1 (fun m => m ∈ l) S1 I1 ln1 → RC e g1 rt (fun _ => 0) (I1 8) → CAN (W2 o o') g1 D1 → TT o i g1 D1 (fun m => m ∈ l) → (∀ m : Nat, g1 m ≠ 0 → LED g1 rt m) → (∀ p : Nat, p < 24 → IN g (rt p) → IN g1 (rt p) ∧ D1 (rt p) = D (rt p)) → FN S I S1 I1 → FA ad ln ad1 ln1 → S1 9 ≤ B → S1 10 + 2 * l.length + 2 ≤ B → S1 10 + 2 * l.length + 2 ≤ 2 ^ e → p_N_change_L29 (ad1 4) (nI (o i)) (nI (o (i + 1))) X (l.length + 1) (nI t) (nI s) u := by
  intro l
  induction l with
  | nil =>
    intro s t u ad1 S1 I1 ln1 z1 g1 D1 _ hch _ a1 a2 a3 a4 a5 a6 a7 a8 a9 a10 a11 _ _
    rw [p_N_change_L29]
    have : t = 0 := hch
    subst this
    exact ⟨fun _ => hX u ad1 S1 I1 ln1 z1 g1 D1 a1 a2 a3 a4 a5 a6 a7 a8 a9 a10 a11, fun w => absurd rfl w⟩
  | cons n l ih =>
    intro s t u ad1 S1 I1 ln1 z1 g1 D1 hlen hch hnd a1 a2 a3 a4 a5 a6 a7 a8 a9 a10 a11 a12 a13
    obtain ⟨rfl, hn0, hch2⟩ := hch
    rw [List.length_cons] at hlen a12 a13
    have hd2 := List.nodup_cons.mp hnd
    have hle := a2.le
    have tn : t ∈ t :: l := List.mem_cons_self
    have hg := (a6.1 t tn).1
    have tlt := a3.inlt a2 (Or.inr hg)
    rw [p_N_change_L29, List.length_cons]
    refine ⟨fun w => absurd ((nI_0I (by omega)).mp w) hn0, fun _ => pk_le 16384 s (fun w => absurd w (by omega)) (fun _ => ?_)⟩
    refine ⟨_, a1.fN (by decide) rfl, _, a1.nia a2 11 n11 tlt, a1.obN (by decide), ?_⟩
    refine q_N_turn a1 a2 a3 a4 hs ho a5 a6 a7 tn (by omega) (fun u2 ad2 S2 I2 ln2 z2 g2 D2 b1 b2 b3 b4 b5 b6 b7 b8 b9 b10 b11 b12 b13 => nm_e ?_)
    rw [nI_1]
    have eT : (fun m => m ∈ t :: l ∧ m ≠ t) = fun m => m ∈ l := by
      funext m
      refine propext ⟨fun q => ?_, fun q => ⟨List.mem_cons_of_mem _ q, fun w => hd2.1 (w ▸ q)⟩⟩
      rcases List.mem_cons.mp q.1 with w | w
      · exact absurd w q.2
      · exact w
    rw [eT] at b3 b6
    rw [← (b10 4 (by omega)).1]
    refine ih (s + 1) (I1 11 t) u2 ad2 S2 I2 ln2 z2 g2 D2 (by omega) ?_ hd2.2 b1 b2 b3 b4 b5 b6 b7 (fun p hp hin => ?_) (a9.tr b9) (a10.tr b10) (by omega) (by omega) (by omega)
    · exact chn_congr l _ (fun a ha => b13 a (List.mem_cons_of_mem _ ha) (fun w => hd2.1 (w ▸ ha))) hch2
    · have q := a8 p hp hin
      have w := b8 p hp q.1
      exact ⟨w.1, w.2.trans q.2⟩
end CHG
