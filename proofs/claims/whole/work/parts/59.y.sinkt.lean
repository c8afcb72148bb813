/-! sinking by trial: startSinking(), end() -/
section SKY
variable {ad S : Nat → Nat} {I : Nat → Nat → Nat} {ln : Nat → Nat} {L : Nat → Nat → Int64} {E : (Nat → Prop) × (Nat → Option PE)} {z R : Nat × Nat} {u : PS} {e f0 t : Nat} {g gt gg rt : Nat → Nat} {D D0 : Nat → Fn} {o r : Nat → Nat} {x pl c N A : Nat} {F : Nat → Nat → Bool}
theorem q_T_startSinking (h : VC 69 ad S I ln L E z u) (sh : SH R S ln z e) (ts : TSH ln t) (hte : t ≤ e) (ds : DS e g (fun _ => False) S I ln) (rc : RC e g rt (fun _ => 0) (I 8)) (hst : ST o F g D0 rt) (ho : PO o) (hpl : pl < 9) (hx : x < 10) (hr : PR9 r x) (hins : insO r pl x = o) (l37 : ln 37 = 10) (h37 : ∀ i : Nat, i < 9 → I 37 i = r i)
    {Q : PS → Prop} (hQ : ∀ (u' : PS) (ad' S' : Nat → Nat) (I' : Nat → Nat → Nat) (ln' : Nat → Nat) (z' : Nat × Nat), VC 69 ad' S' I' ln' L E z' u' → SH R S' ln' z' e → TSH ln' e → RC e g rt (fun _ => 0) (I' 8) → SKS e (S 9) g rt o r x pl pl F D0 g g D0 (S 10) (I 9 x) S' I' ln' → FTR ad S I ln ad' S' I' ln' → S' 9 = S 9 → S' 12 = S 9 → S' 14 = S 14 → (∀ n : Nat, I' 25 n = I 25 n ∨ I' 25 n = 0) → Q u') : p_T_startSinking (ad 5) (nI x) (ad 37) (nI pl) u Q := by
  have hle := sh.le
  obtain ⟨hcg, hrt, hL⟩ := id hst
  have s9e : S 9 ≤ 2 ^ e := ds.2.2.2.1
  have hxo : o pl = x := by rw [← hins]; exact insO_at r pl x
  have hro : ∀ j : Nat, j < pl → o j = r j := fun j hj => by rw [← hins]; exact ins_lt r x hj
  have nT : ∀ i : Nat, i < 24 ∨ 28 ≤ i → ¬ isT i := fun i hi q => by rcases q with q | q | q | q <;> omega
  unfold p_T_startSinking
  refine ⟨h.obT (by decide), q_T_fit h sh ts hte (fun u1 ad1 I1 ln1 z1 c1 c2 c3 c4 c5 => ?_)⟩
  have E5 : ad1 5 = ad 5 := (c4 5 (nT 5 (by omega))).1
  have E37 : ad1 37 = ad 37 := (c4 37 (nT 37 (by omega))).1
  rw [← E5, ← E37]
  have I1e : ∀ i : Nat, i < 24 ∨ 28 ≤ i → I1 i = I i := fun i hi => (c4 i (nT i hi)).2.1
  have l1e : ∀ i : Nat, i < 24 ∨ 28 ≤ i → ln1 i = ln i := fun i hi => (c4 i (nT i hi)).2.2
  have ds1 : DS e g (fun _ => False) S I1 ln1 := ds.cong (fun j a b _ _ => I1e j (by omega)) rfl rfl rfl (fun k hk => l1e _ (by omega))
  refine ⟨c1.obT (by decide), q_T_start c1 c2 c3 s9e hx (fun u2 h2 => ?_)⟩
  have sh2 : SH R (va_up (va_up S 12 (S 9)) 13 (I1 9 x)) ln1 z1 e := c2.s rfl
  generalize hI2 : va_up I1 24 (va_cpy (I1 8) (I1 24) 0 0 (S 9)) = I2 at h2
  have I2e : ∀ i : Nat, i ≠ 24 → I2 i = I1 i := fun i hi => by rw [← hI2, up_ne _ _ hi]
  have I224 : ∀ n : Nat, n < S 9 → I2 24 n = I 8 n := fun n hn => by rw [← hI2, up_eq, cpy_lt hn, I1e 8 (by omega)]
  have lp37 : ln1 37 = 10 := by rw [l1e 37 (by omega)]; exact l37
  refine ⟨9 - pl + 1, q_T_ss_L12 (I := I2) (pl := pl) (r := r) (x := x) c3 lp37 hr (fun i hi => by rw [I2e 37 (by decide), I1e 37 (by omega)]; exact h37 i hi) (fun u3 P H h3 hPH => ?_) (9 - pl) pl u2 (I2 29) (I2 28) (by omega) (Nat.le_refl _) (by rw [up_id, up_id]; exact h2) (fun j a b => absurd b (by omega))⟩
  unfold p_T_startSinking_J44
  have l29 : ln1 29 = 11 := c3.2.2.2.2.2.2
  obtain ⟨u4, s4, h4⟩ := h3.isx 29 (by decide) (ii (by decide)) (j := 10) (by omega) (by omega) 10
  refine ⟨_, h3.fT (by decide) rfl, u4, s4, _, h4.fT (by decide) rfl, _, h4.fN (by decide) rfl, _, h4.rm (by decide) hx, ?_⟩
  generalize hI4 : va_up (va_up (va_up I2 29 P) 28 H) 29 _ = I4 at h4
  have I429 : I4 29 = va_up P 10 10 := by rw [← hI4, up_eq]; rfl
  have I428 : I4 28 = H := by rw [← hI4]; rfl
  have I4e : ∀ i : Nat, i ≠ 28 → i ≠ 29 → I4 i = I2 i := fun i q1 q2 => by rw [← hI4, up_ne _ _ q2, up_ne _ _ q1, up_ne _ _ q2]
  have plc : PLC r pl (I4 29) := by
    rw [I429]
    refine ⟨fun j j1 j2 => ?_, up_eq _ _ _⟩
    have := (hr.1 j j2).1
    rw [up_ne _ _ (by omega)]
    exact (hPH j j1 j2).1
  have I4lo : ∀ i : Nat, i < 24 → I4 i = I i := fun i hi => by rw [I4e i (by omega) (by omega), I2e i (by omega), I1e i (by omega)]
  have ds4 : DS e g (fun _ => False) (va_up (va_up S 12 (S 9)) 13 (I1 9 x)) I4 ln1 := ds1.cong (fun j a b _ _ => by rw [I4lo j (by omega), I1e j (by omega)]) rfl rfl rfl (fun _ _ => rfl)
  have tm4 := ds4.tm
  have S9' : va_up (va_up S 12 (S 9)) 13 (I1 9 x) 9 = S 9 := rfl
  rw [S9'] at tm4
  have xlow : ∀ n : Nat, g n ≠ 0 → nk (g n) = x → ∀ j : Nat, j < pl → ¬ dep (D0 n) (r j) := fun n hn hk j hj => by
    obtain ⟨a, ha, ea, h3⟩ := hcg.w hn
    have : a = pl := ho.2 a pl ha (by omega) (by rw [ea, hk, hxo])
    subst this
    rw [← hro j hj]; exact h3 j hj
  have low : ∀ q : Nat, IN g q → (∃ n : Nat, g n ≠ 0 ∧ nk (g n) = x ∧ (n0 (g n) = q ∨ n1 (g n) = q)) → I4 29 (kd g q) < 11 := fun q hq ⟨n, q1, q2, q3⟩ => by
    have hl : lowr x r pl (D0 q) := by
      have : ∃ b : Bool, D0 q = cof x b (D0 n) := by
        rcases q3 with w | w
        · exact ⟨false, by rw [← w, ← hcg.c0 q1, q2]⟩
        · exact ⟨true, by rw [← w, ← hcg.c1 q1, q2]⟩
      obtain ⟨b, eb⟩ := this
      rw [eb]
      exact ⟨not_dep_cof _ _ _, fun j hj w => xlow n q1 q2 j hj (cof_dep w)⟩
    rcases kd_low hcg hr hx plc (Nat.le_refl _) hq hl with w | ⟨j, _, w2, _, w4⟩
    · omega
    · omega
  have I49 : I4 9 = I 9 := I4lo 9 (by omega)
  have I19 : I1 9 = I 9 := I1e 9 (by omega)
  refine ⟨I4 9 x + 1, q_T_ss_L67 (pl := pl) (R := R) (S := va_up (va_up S 12 (S 9)) 13 (I1 9 x)) (I := I4) (T0 := I4 9 x) sh2 c3 tm4 hcg hx low rfl (by rw [up_eq, I49, I19]) (fun u5 M H5 h5 hch => ?_) (I4 9 x) 0 u4 (I4 27) (I4 28) (by omega) (by rw [up_id, up_id]; exact h4) (fun i i1 i2 => ⟨[], by rw [I428]; exact (hPH i i1 i2).2, List.nodup_nil, fun n => ⟨fun w => absurd w List.not_mem_nil, fun w => by obtain ⟨⟨a, q, _⟩, _⟩ := w; omega⟩⟩)⟩
  generalize hI5 : va_up (va_up I4 27 M) 28 H5 = I5 at h5
  have I527 : I5 27 = M := by rw [← hI5]; rfl
  have I528 : I5 28 = H5 := by rw [← hI5]; rfl
  have I5e : ∀ i : Nat, i ≠ 27 → i ≠ 28 → I5 i = I4 i := fun i q1 q2 => by rw [← hI5, up_ne _ _ q2, up_ne _ _ q1]
  have I5lo : ∀ i : Nat, i < 24 → I5 i = I i := fun i hi => by rw [I5e i (by omega) (by omega), I4lo i hi]
  have d7 := ds.2.2.2.2.2.2.1
  refine hQ u5 ad1 _ I5 ln1 z1 h5 sh2 c3 (by rw [I5lo 8 (by omega)]; exact rc) ⟨tm4.i24 (fun i hi => I5e i (by omega) (by omega)), hcg, by rw [hins]; exact hst, fun _ q => q, fun _ _ _ _ => rfl, fun _ _ _ => rfl, fun n hn hl => ?_, by rw [I5e 29 (by decide) (by decide)]; exact plc, fun i i1 i2 => ?_, fun _ _ => rfl, ds.cnt, ds.asks hx, by rw [up_eq, I19]⟩ ⟨fun i hi => ?_, fun s _ _ a3 a4 _ => by rw [up_ne _ _ a4, up_ne _ _ a3], fun b hb n => by rw [I5lo 13 (by omega)]; exact hb n⟩ rfl rfl rfl (fun n => ?_)
  · have nlt : n < S 9 := by
      rcases hn with w | w
      · have := ds.s9; omega
      · exact (ds.2.2.1 n w).2.1
    refine ⟨nlt, ?_⟩
    rw [I5e 24 (by decide) (by decide), I4e 24 (by decide) (by decide), I224 n nlt]
    exact rc n (by omega)
  · obtain ⟨l, l1, l2, l3⟩ := hch i i1 i2
    rw [I527, I528, I5e 29 (by decide) (by decide)]
    refine ⟨l, l1, l2, fun n => ?_⟩
    rw [l3 n]
    constructor
    · rintro ⟨⟨a, q1, q2⟩, q3⟩
      rw [I49] at q1
      rw [I4lo _ (by omega)] at q2
      have w := d7.1 x a hx q1
      dsimp only at w
      rw [q2] at w
      exact ⟨w.1.1, w.2.1, q3⟩
    · rintro ⟨q1, q2, q3⟩
      obtain ⟨w1, w2, w3⟩ := d7.2 n ⟨q1, fun w => w⟩
      rw [q2] at w2 w3
      refine ⟨⟨I 10 n, by rw [I49]; exact w2, by rw [I4lo _ (by omega)]; exact w3⟩, q3⟩
  · have q := c4 i (nT i (by omega))
    refine ⟨q.1, q.2.2, ?_⟩
    rw [I5e i (by omega) (by omega), I4e i (by omega) (by omega), I2e i (by omega)]
    exact q.2.1
  · rw [I5e 25 (by decide) (by decide), I4e 25 (by decide) (by decide), I2e 25 (by decide)]
    exact (c5 25 n t25).2
/-- the end of a trial -/
theorem q_T_end (h : VC 69 ad S I ln L E z u) (sh : SH R S ln z e) (tm : TM e f0 g gt S I ln) (h12 : S 12 = f0) {Q : PS → Prop} (hQ : ∀ (u' : PS) (hd : Nat → Nat), VC 69 ad (va_up S 9 f0) (va_up I 12 hd) ln L E z u' → DS e g (fun _ => False) (va_up S 9 f0) (va_up I 12 hd) ln → Q u') : p_T_end (ad 5) u Q := by
  unfold p_T_end
  refine ⟨_, h.fT (by decide) rfl, _, h.fT (by decide) rfl, h.obN (by decide), ?_⟩
  rw [h12]
  exact q_N_forgetTried h sh tm hQ
end SKY
