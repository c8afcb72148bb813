/-! sinking by trial: its start and its end -/
section SKX
variable {ad S : Nat → Nat} {I : Nat → Nat → Nat} {ln : Nat → Nat} {L : Nat → Nat → Int64} {E : (Nat → Prop) × (Nat → Option PE)} {z R : Nat × Nat} {u : PS} {e f0 : Nat} {g gt gg rt : Nat → Nat} {D D0 : Nat → Fn} {o r : Nat → Nat} {x pl c N A : Nat} {F : Nat → Nat → Bool}
theorem q_T_start (h : VC 69 ad S I ln L E z u) (sh : SH R S ln z e) (ts : TSH ln e) (h9 : S 9 ≤ 2 ^ e) (hx : x < 10) {Q : PS → Prop} (hQ : ∀ u' : PS, VC 69 ad (va_up (va_up S 12 (S 9)) 13 (I 9 x)) (va_up I 24 (va_cpy (I 8) (I 24) 0 0 (S 9))) ln L E z u' → Q u') : p_T_start (ad 5) (nI x) u Q := by
  have hle := sh.le
  have l9 : ln 9 = 10 := sh.2.2.1.2.2.1
  have l8 : ln 8 = 2 ^ e := sh.len n8
  have l24 : ln 24 = 2 ^ e := ts.len t24
  unfold p_T_start
  obtain ⟨u1, s1, h1⟩ := h.sT (by decide) 1 12 (S 9) (by decide) rfl rfl rfl rfl
  have r9 := h1.ia 9 (by decide) (ii (by decide)) (j := x) (by omega) (by omega)
  refine ⟨_, h.fT (by decide) rfl, _, h.fN (by decide) rfl, u1, s1, _, h1.fT (by decide) rfl, _, h1.fN (by decide) rfl, _, r9, ?_⟩
  obtain ⟨u2, s2, h2⟩ := h1.sT (by decide) 2 13 (I 9 x) (by decide) rfl rfl rfl rfl
  obtain ⟨u3, s3, h3⟩ := h2.cpx (i := 8) (j := 24) (s := 0) (d := 0) (m := S 9) (by decide) (ii (by decide)) (by decide) (ii (by decide)) (by omega) (by omega) (by omega) (by omega)
  exact ⟨u2, s2, _, h2.fT (by decide) rfl, _, h2.fN (by decide) rfl, _, h2.fT (by decide) rfl, _, h2.fT (by decide) rfl, u3, s3, hQ u3 h3⟩
theorem cpy_lt {f k : Nat → Nat} {N n : Nat} (h : n < N) : va_cpy f k 0 0 N n = f n := by
  unfold va_cpy
  rw [if_pos (by omega)]
  congr 1
  omega
theorem q_T_ss_L12 (ts : TSH ln e) (l37 : ln 37 = 10) (hr : PR9 r x) (h37 : ∀ i : Nat, i < 9 → I 37 i = r i) {x1 : Int32} {X : PS → Prop} (hX : ∀ (u' : PS) (P H : Nat → Nat), VC 69 ad S (va_up (va_up I 29 P) 28 H) ln L E z u' → (∀ j : Nat, pl ≤ j → j < 9 → P (r j) = j ∧ H j = 0) → X u') : ∀ (d i : Nat) (u : PS) (P H : Nat → Nat), i + d = 9 → pl ≤ i → VC 69 ad S (va_up (va_up I 29 P) 28 H) ln L E z u → (∀ j : Nat, pl ≤ j → j < i → P (r j) = j ∧ H j = 0) → p_T_startSinking_L12 (ad 5) x1 (ad 37) X (d + 1) (nI i) u := by
  have l28 : ln 28 = 11 := ts.2.2.2.2.2.1
  have l29 : ln 29 = 11 := ts.2.2.2.2.2.2
  intro d
  induction d with
  | zero =>
    intro i u P H hi hp h hh
    obtain rfl : i = 9 := by omega
    rw [p_T_startSinking_L12]
    exact pk_le 9 9 (fun _ => hX u P H h hh) (fun w => absurd w (by omega))
  | succ d ih =>
    intro i u P H hi hp h hh
    rw [p_T_startSinking_L12]
    refine pk_le 9 i (fun w => absurd w (by omega)) (fun _ => ?_)
    have r37 := h.ia 37 (by decide) (ii (by decide)) (j := i) (by omega) (by omega)
    have e37 : va_up (va_up I 29 P) 28 H 37 = I 37 := rfl
    rw [e37, h37 i (by omega)] at r37
    have hy10 := (hr.1 i (by omega)).1
    obtain ⟨u1, s1, h1⟩ := h.isx 29 (by decide) (ii (by decide)) (j := r i) (by omega) (by omega) i
    refine ⟨_, h.fT (by decide) rfl, _, r37, u1, s1, _, h1.fT (by decide) rfl, ?_⟩
    obtain ⟨u2, s2, h2⟩ := h1.isx 28 (by decide) (ii (by decide)) (j := i) (by omega) (by omega) 0
    refine ⟨u2, s2, nm_e ?_⟩
    rw [nI_1]
    have eq : va_up (va_up (va_up (va_up I 29 P) 28 H) 29 (va_up (va_up (va_up I 29 P) 28 H 29) (r i) i)) 28 (va_up (va_up (va_up (va_up I 29 P) 28 H) 29 (va_up (va_up (va_up I 29 P) 28 H 29) (r i) i) 28) i 0) = va_up (va_up I 29 (va_up P (r i) i)) 28 (va_up H i 0) := by
      funext j
      by_cases c1 : j = 28
      · subst c1; rw [up_eq, up_eq, up_ne _ _ (by decide), up_eq]
      · rw [up_ne _ _ c1, up_ne _ _ c1]
        by_cases c2 : j = 29
        · subst c2; rw [up_eq, up_eq, up_ne _ _ (by decide), up_eq]
        · rw [up_ne _ _ c2, up_ne _ _ c2, up_ne _ _ c1, up_ne _ _ c2]
    rw [eq] at h2
    refine ih (i + 1) u2 _ _ (by omega) (by omega) h2 (fun j j1 j2 => ?_)
    by_cases c : j = i
    · subst c; rw [up_eq, up_eq]; exact ⟨rfl, rfl⟩
    · rw [up_ne _ _ (fun q => c (hr.2 j i (by omega) (by omega) q)), up_ne _ _ c]
      exact hh j j1 (by omega)
theorem q_T_ss_L67 (sh : SH R S ln z e) (ts : TSH ln e) (tm : TM e f0 g g S I ln) (hcg : CAN (Wo o) g D) (hx : x < 10) (low : ∀ q : Nat, IN g q → (∃ n : Nat, g n ≠ 0 ∧ nk (g n) = x ∧ (n0 (g n) = q ∨ n1 (g n) = q)) → I 29 (kd g q) < 11) {T0 : Nat} (hT0 : T0 = I 9 x) (h13 : S 13 = I 9 x)
    {X : PS → Prop} (hX : ∀ (u' : PS) (M H : Nat → Nat), VC 69 ad S (va_up (va_up I 27 M) 28 H) ln L E z u' → (∀ i : Nat, pl ≤ i → i < 9 → ∃ l : List Nat, chn M (H i) l ∧ l.Nodup ∧ ∀ n : Nat, n ∈ l ↔ (∃ a : Nat, a < I 9 x ∧ I (14 + x) a = n) ∧ mpl (I 29) g n = i) → X u') : ∀ (d j : Nat) (u : PS) (M H : Nat → Nat), j + d = I 9 x → VC 69 ad S (va_up (va_up I 27 M) 28 H) ln L E z u → (∀ i : Nat, pl ≤ i → i < 9 → ∃ l : List Nat, chn M (H i) l ∧ l.Nodup ∧ ∀ n : Nat, n ∈ l ↔ (∃ a : Nat, a < j ∧ I (14 + x) a = n) ∧ mpl (I 29) g n = i) → p_T_startSinking_L67 (ad 5) (ad (14 + x)) X (d + 1) (nI j) u := by
  have hle := sh.le
  obtain ⟨d1, d2, d3, ⟨d4, d5, d6⟩, d7, d8, d9, d10, d11, d12, d13, d14⟩ := id tm
  have lx := sh.2.2.2.2.1 x hx
  have lc := d14 x hx
  intro d
  induction d with
  | zero =>
    intro j u M H hj h hh
    obtain rfl : j = I 9 x := by omega
    rw [p_T_startSinking_L67]
    refine ⟨_, h.fT (by decide) rfl, ?_⟩
    rw [h13]
    exact pk_le (I 9 x) (I 9 x) (fun _ => hX u M H h hh) (fun w => absurd w (by omega))
  | succ d ih =>
    intro j u M H hj h hh
    rw [p_T_startSinking_L67]
    refine ⟨_, h.fT (by decide) rfl, ?_⟩
    rw [h13]
    refine pk_le (I 9 x) j (fun w => absurd w (by omega)) (fun _ => ?_)
    obtain ⟨m1, m2, m3⟩ := d13.1 x j hx (by omega)
    dsimp only at m1 m2 m3
    generalize hn : I (14 + x) j = n at m1 m2 m3
    have hg := m1.1
    have ek : va_up (va_up I 27 M) 28 H (14 + x) = I (14 + x) := by rw [up_ne _ _ (by omega), up_ne _ _ (by omega)]
    have e7 : va_up (va_up I 27 M) 28 H 7 = I 7 := rfl
    have e29 : va_up (va_up I 27 M) 28 H 29 = I 29 := rfl
    have rx := h.ia (14 + x) (by omega) (ii (by omega)) (j := j) (by omega) (by omega)
    rw [ek, hn] at rx
    obtain ⟨t7, t32, tl⟩ := tm.cg (Or.inr hg)
    have r7 := h.nia sh 7 n7 (j := n) (by omega)
    rw [e7, t7, cg_lt (hcg.ge hg)] at r7
    rw [cg_lt (hcg.ge hg)] at t32
    refine ⟨_, h.fT (by decide) rfl, _, h.fN (by decide) rfl, _, rx, _, r7, _, rx, h.obT (by decide), ?_⟩
    rw [nI_n0 t32, nI_n1]
    have i0 := hcg.i0 hg
    have i1 := hcg.i1 hg
    have tm' : TM e f0 g g S (va_up (va_up I 27 M) 28 H) ln := tm.i24 (fun i hi => by rw [up_ne _ _ (by omega), up_ne _ _ (by omega)])
    refine q_T_link h sh ts tm' hcg (m := n) (by omega) i0 i1 (by rw [e29]; exact low _ i0 ⟨n, hg, m2, Or.inl rfl⟩) (by rw [e29]; exact low _ i1 ⟨n, hg, m2, Or.inr rfl⟩) (fun u1 hh' eh h1 => nm_e ?_)
    rw [nI_1]
    have e27 : va_up (va_up I 27 M) 28 H 27 = M := rfl
    have e28 : va_up (va_up I 27 M) 28 H 28 = H := rfl
    rw [e27, e28] at h1
    rw [e29] at eh
    have eq : va_up (va_up (va_up (va_up I 27 M) 28 H) 27 (va_up M n (H hh'))) 28 (va_up H hh' n) = va_up (va_up I 27 (va_up M n (H hh'))) 28 (va_up H hh' n) := by
      funext q
      by_cases c1 : q = 28
      · subst c1; rw [up_eq, up_eq]
      · rw [up_ne _ _ c1, up_ne _ _ c1]
        by_cases c2 : q = 27
        · subst c2; rw [up_eq, up_eq]
        · rw [up_ne _ _ c2, up_ne _ _ c2, up_ne _ _ c1, up_ne _ _ c2]
    rw [eq] at h1
    have mp : mpl (I 29) g n = hh' := by rw [eh]; rfl
    have nold : ¬ ∃ a : Nat, a < j ∧ I (14 + x) a = n := fun ⟨a, q1, q2⟩ => by
      have b := (d13.1 x a hx (by omega)).2.2
      dsimp only at b
      rw [q2, m3] at b
      omega
    have ext1 : ∀ m : Nat, (∃ a : Nat, a < j + 1 ∧ I (14 + x) a = m) ↔ (∃ a : Nat, a < j ∧ I (14 + x) a = m) ∨ m = n := fun m => by
      constructor
      · rintro ⟨a, q1, q2⟩
        by_cases c : a = j
        · subst c; exact Or.inr (by rw [← q2, hn])
        · exact Or.inl ⟨a, by omega, q2⟩
      · rintro (⟨a, q1, q2⟩ | q)
        · exact ⟨a, by omega, q2⟩
        · exact ⟨j, by omega, by rw [q, hn]⟩
    refine ih (j + 1) u1 _ _ (by omega) h1 (fun i i1' i2' => ?_)
    obtain ⟨l, l1, l2, l3⟩ := hh i i1' i2'
    have nl : n ∉ l := fun q => nold ((l3 n).mp q).1
    have cg2 : ∀ q : Nat, q ∈ l → va_up M n (H hh') q = M q := fun q hq => up_ne _ _ (fun w => nl (w ▸ hq))
    by_cases q : i = hh'
    · subst q
      refine ⟨n :: l, ?_, List.nodup_cons.mpr ⟨nl, l2⟩, fun m => ?_⟩
      · rw [up_eq]
        refine ⟨rfl, by have := hcg.ge hg; omega, ?_⟩
        rw [up_eq]
        exact chn_congr l _ cg2 l1
      · rw [List.mem_cons, l3 m, ext1 m]
        constructor
        · rintro (q2 | ⟨q2, q3⟩)
          · exact ⟨Or.inr q2, by rw [q2]; exact mp⟩
          · exact ⟨Or.inl q2, q3⟩
        · rintro ⟨q2 | q2, q3⟩
          · exact Or.inr ⟨q2, q3⟩
          · exact Or.inl q2
    · refine ⟨l, ?_, l2, fun m => ?_⟩
      · rw [up_ne _ _ q]
        exact chn_congr l _ cg2 l1
      · rw [l3 m, ext1 m]
        constructor
        · rintro ⟨q2, q3⟩; exact ⟨Or.inl q2, q3⟩
        · rintro ⟨q2 | q2, q3⟩
          · exact ⟨q2, q3⟩
          · rw [q2, mp] at q3
            exact absurd q3.symm q
end SKX
