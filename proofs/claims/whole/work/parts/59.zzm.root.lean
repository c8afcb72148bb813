/-! Drawing: rootOf() -/
def FX (p : Nat) (ad S : Nat → Nat) (I : Nat → Nat → Nat) (ln ad' S' : Nat → Nat) (I' : Nat → Nat → Nat) (ln' : Nat → Nat) : Prop := (∀ i : Nat, ¬ (7 ≤ i ∧ i < 24) → ad' i = ad i ∧ ln' i = ln i) ∧ (∀ i : Nat, ¬ (7 ≤ i ∧ i < 24) → i ≠ 6 → ¬ (30 ≤ i ∧ i < 37) → I' i = I i) ∧ (∀ s : Nat, 2 ≤ s → ¬ (7 ≤ s ∧ s < 11) → S' s = S s) ∧ (∀ b : Nat, (∀ n : Nat, I 13 n ≤ b) → ∀ n : Nat, I' 13 n ≤ b) ∧ ln 7 ≤ ln' 7 ∧ ∀ q : Nat, q ≠ p → (S' 0).testBit q = (S 0).testBit q
section FXs
variable {p : Nat} {ad S : Nat → Nat} {I : Nat → Nat → Nat} {ln ad' S' : Nat → Nat} {I' : Nat → Nat → Nat} {ln' ad'' S'' : Nat → Nat} {I'' : Nat → Nat → Nat} {ln'' : Nat → Nat}
theorem FX.rf (p : Nat) (ad S : Nat → Nat) (I : Nat → Nat → Nat) (ln : Nat → Nat) : FX p ad S I ln ad S I ln := ⟨fun _ _ => ⟨rfl, rfl⟩, fun _ _ _ _ => rfl, fun _ _ _ => rfl, fun _ h => h, Nat.le_refl _, fun _ _ => rfl⟩
theorem FX.tr (h : FX p ad S I ln ad' S' I' ln') (k : FX p ad' S' I' ln' ad'' S'' I'' ln'') : FX p ad S I ln ad'' S'' I'' ln'' :=
  ⟨fun i hi => ⟨(k.1 i hi).1.trans (h.1 i hi).1, (k.1 i hi).2.trans (h.1 i hi).2⟩, fun i a b c => (k.2.1 i a b c).trans (h.2.1 i a b c), fun s a b => (k.2.2.1 s a b).trans (h.2.2.1 s a b), fun b hb => k.2.2.2.1 b (h.2.2.2.1 b hb), Nat.le_trans h.2.2.2.2.1 k.2.2.2.2.1, fun q hq => (k.2.2.2.2.2 q hq).trans (h.2.2.2.2.2 q hq)⟩
theorem FX.ofFG (h : FG ad S I ln ad' S' I' ln') : FX p ad S I ln ad' S' I' ln' := ⟨fun i hi => ⟨(h.1 i hi).1, (h.1 i hi).2.1⟩, fun i hi _ _ => (h.1 i hi).2.2, fun s _ hs => h.2.1 s hs, h.2.2.1, h.2.2.2, fun q _ => by rw [h.2.1 0 (by omega)]⟩
theorem FX.ofFW (h : FW ad S I ln ad' S' I' ln') : FX p ad S I ln ad' S' I' ln' := ⟨fun i hi => h.2.2.2 i (by omega), fun i hi _ h2 => h.1 i (by omega) (by omega), fun s _ hs => h.2.1 s (by omega) (by omega) (by omega), fun b hb n => by rw [h.2.2.1]; exact hb n, by rw [(h.2.2.2 7 (by omega)).2]; exact Nat.le_refl _, fun q _ => by rw [h.2.1 0 (by omega) (by omega) (by omega)]⟩
theorem FX.ofFN (h : FN S I S' I') (k : FA ad ln ad' ln') : FX p ad S I ln ad' S' I' ln' := FX.ofFG (FG.of h k)
theorem FX.ofFRF (h : FRF p ad S I ad S' I') : FX p ad S I ln ad S' I' ln := ⟨fun _ _ => ⟨rfl, rfl⟩, fun i _ h6 _ => h.2.1 i h6, fun s hs _ => h.2.2.1 s hs, fun b hb n => by rw [h.2.1 13 (by decide)]; exact hb n, Nat.le_refl _, fun q hq => h.2.2.2 q hq⟩
theorem FX.put30 (h : ∀ i : Nat, i ≠ 30 → I' i = I i) : FX p ad S I ln ad S I' ln := ⟨fun _ _ => ⟨rfl, rfl⟩, fun i _ _ hi => h i (by omega), fun _ _ _ => rfl, fun b hb n => by rw [h 13 (by decide)]; exact hb n, Nat.le_refl _, fun _ _ => rfl⟩
end FXs
theorem FK.same {F : Nat → Nat → Bool} {S S' : Nat → Nat} {I I' : Nat → Nat → Nat} {L L' : Nat → Nat → Int64} (h : FK F S I L) (h0 : S' 0 = S 0) (h1 : S' 1 = S 1) (h6 : I' 6 = I 6) (hL : ∀ p : Nat, p < 24 → L' (42 + p) = L (42 + p)) : FK F S' I' L' := by
  refine ⟨fun p hp => ?_, by rw [h0]; exact h.2.1, by rw [h1]; exact h.2.2.1, fun p hp hs => ?_⟩
  · rw [h6, hL p hp]; exact h.1 p hp
  · rw [h0] at hs; rw [h1, h6]; exact h.2.2.2 p hp hs
/-- how many bits -/
theorem pc_cnt2 (m : Nat) : ∀ n : Nat, Cnt (fun k => k < n ∧ m.testBit k = true) (pc m n) := by
  intro n
  induction n with
  | zero => exact Cnt.zero (fun x hx => absurd hx.1 (by omega))
  | succ n ih =>
    rw [pc]
    cases c : m.testBit n
    · refine ih.congr (fun x => ⟨fun h => ⟨by omega, h.2⟩, fun h => ⟨?_, h.2⟩⟩)
      have : x ≠ n := fun q => by rw [q, c] at h; exact absurd h.2 (by decide)
      omega
    · refine ih.add n (fun h => absurd h.1 (by omega)) (fun x => ⟨fun h => ?_, fun h => ?_⟩)
      · by_cases q : x = n
        · exact Or.inr q
        · exact Or.inl ⟨by omega, h.2⟩
      · rcases h with h | h
        · exact ⟨by omega, h.2⟩
        · subst h; exact ⟨by omega, c⟩
theorem ASK.cnt {o pl : Nat → Nat} {m c : Nat} (h : ASK o m c pl) (ho : PO o) : c = pc m 10 := by
  have a : Cnt (fun k => k < 10 ∧ m.testBit k = true) c := ⟨fun j => o (pl j), fun i j hi hj e => h.inj ho i j hi hj e, fun i hi => ⟨h.lt ho i hi, (h.2.1 i hi).2⟩, fun x hx => h.2.2.1 x hx.1 hx.2⟩
  exact a.uniq (pc_cnt2 m 10)
theorem pc_one : ∀ m : Nat, m < 1024 → pc m 10 = 1 → (List.range 10).any (fun t => m == 2 ^ t) = true := by decide +kernel
theorem pc_zero : ∀ m : Nat, m < 1024 → m ≠ 0 → pc m 10 ≠ 0 ∧ pc m 10 ≤ 10 := by decide +kernel
theorem mn_c : ∀ c : Nat, c < 11 → (if (269 : Int32) < ((1 : Int32) <<< (nI c &&& 31)) then (269 : Int32) else ((1 : Int32) <<< (nI c &&& 31))) = nI (if 269 < 2 ^ c then 269 else 2 ^ c) := by decide +kernel
theorem mn_w : ∀ c : Nat, c < 11 → (5 < c → 13 + 16 * 2 ^ (c - 6) ≤ (if 269 < 2 ^ c then 269 else 2 ^ c)) ∧ (¬ 5 < c → (if 269 < 2 ^ c then 269 else 2 ^ c) = 2 ^ c) ∧ (if 269 < 2 ^ c then 269 else 2 ^ c) ≤ 269 ∧ 1 ≤ (if 269 < 2 ^ c then 269 else 2 ^ c) := by decide +kernel
section ROOT
variable {L : Nat → Nat → Int64} {E : (Nat → Prop) × (Nat → Option PE)} {R : Nat × Nat} {B e : Nat} {o rt g0 : Nat → Nat} {D0 : Nat → Fn} {f : Fn} {ad S : Nat → Nat} {I : Nat → Nat → Nat} {ln : Nat → Nat} {z : Nat × Nat} {g : Nat → Nat} {D : Nat → Fn} {F Fd : Nat → Nat → Bool}
theorem q_root_L91 (l30 : ln 30 = 10) (l37 : ln 37 = 10) (ho : PO o) (h37 : ∀ j : Nat, j < 10 → I 37 j = o j) {m : Nat} (hm : m < 1024) {x1 x5 : Int32} {X : PS → Prop} (hX : ∀ (u' : PS) (I' : Nat → Nat → Nat) (c : Nat) (pl : Nat → Nat), VC 69 ad S I' ln L E z u' → (∀ i : Nat, i ≠ 30 → I' i = I i) → ASK o m c pl → (∀ j : Nat, j < c → I' 30 j = o (pl j)) → X u') : ∀ (d k c : Nat) (u : PS) (I' : Nat → Nat → Nat) (pl : Nat → Nat), k < d → k + c ≤ 10 → VC 69 ad S I' ln L E z u → (∀ i : Nat, i ≠ 30 → I' i = I i) → (∀ j : Nat, j < c → (k ≤ pl j ∧ pl j < 10) ∧ m.testBit (o (pl j)) = true ∧ I' 30 j = o (pl j)) → (∀ i : Nat, k ≤ i → i < 10 → m.testBit (o i) = true → ∃ j : Nat, j < c ∧ pl j = i) → (∀ i j : Nat, i < j → j < c → pl j < pl i) → p_G_rootOf_L91 (ad 3) x1 (ad 37) (nI m) x5 X d (nI c) (nI k + (-1)) u := by
  intro d
  induction d with
  | zero => intro k c u I' pl h1; exact absurd h1 (by omega)
  | succ d ih =>
    intro k c u I' pl h1 h2 h fr ha hb hd
    rw [p_G_rootOf_L91]
    cases k with
    | zero =>
      refine br_t (by decide) (hX u I' c pl h fr ⟨by omega, fun j hj => ⟨(ha j hj).1.2, (ha j hj).2.1⟩, fun k hk hm => ?_, hd⟩ (fun j hj => (ha j hj).2.2))
      obtain ⟨i, hi, rfl⟩ := ho.sur hk
      obtain ⟨j, j1, rfl⟩ := hb i (by omega) hi hm
      exact ⟨j, j1, rfl⟩
    | succ k =>
      have ek : nI (k + 1) + (-1 : Int32) = nI k := by
        have := pk_sub (a := k + 1) (b := 1) (by omega)
        rw [show k + 1 - 1 = k by omega] at this
        rw [← this, Int32.sub_eq_add_neg]
        rfl
      rw [ek]
      have r37 := h.ia 37 (by decide) (ii (by decide)) (j := k) (by omega) (by omega)
      rw [fr 37 (by decide), h37 k (by omega)] at r37
      have ok := ho.1 k (by omega)
      refine br_f (Int32.not_lt.mpr (nI_le (a := 0) (b := k) (by omega) (by omega))) ⟨_, r37, ?_⟩
      rw [tb_nI (by omega) (by omega)]
      have nx : ∀ (c' : Nat) (u' : PS), p_G_rootOf_L91 (ad 3) x1 (ad 37) (nI m) x5 X d (nI c') (nI k + (-1)) u' → p_G_rootOf_J122 (p_G_rootOf_L91 (ad 3) x1 (ad 37) (nI m) x5 X d) X (ad 3) x1 (ad 37) (nI m) x5 (nI c') (nI k) u' := fun c' u' w => by
        unfold p_G_rootOf_J122
        exact nm_e w
      cases cm : m.testBit (o k)
      · refine brn_f (by decide) (nx c u (ih k c u I' pl (by omega) (by omega) h fr (fun j hj => ?_) (fun i i1 i2 i3 => ?_) hd))
        · have := ha j hj; exact ⟨⟨by omega, this.1.2⟩, this.2⟩
        · by_cases q : i = k
          · rw [q, cm] at i3; exact absurd i3 (by decide)
          · exact hb i (by omega) i2 i3
      · obtain ⟨u1, s1, k1⟩ := h.isx 30 (by decide) (ii (by decide)) (j := c) (by omega) (by omega) (o k)
        refine brn_t rfl ⟨_, h.fG (by decide) rfl, _, r37, u1, s1, nm_e ?_⟩
        rw [show (1 : Int32) = nI 1 from rfl, nI_add]
        refine nx (c + 1) u1 (ih k (c + 1) u1 _ (va_up pl c k) (by omega) (by omega) k1 (fun i hi => by rw [up_ne _ _ hi]; exact fr i hi) (fun j hj => ?_) (fun i i1 i2 i3 => ?_) (fun i j hij hj => ?_))
        · rw [up_eq]
          by_cases q : j = c
          · subst q; rw [up_eq, up_eq]; exact ⟨⟨Nat.le_refl _, by omega⟩, cm, rfl⟩
          · rw [up_ne _ _ q, up_ne _ _ q]
            have := ha j (by omega)
            exact ⟨⟨by omega, this.1.2⟩, this.2⟩
        · by_cases q : i = k
          · exact ⟨c, by omega, by rw [up_eq]; exact q.symm⟩
          · obtain ⟨j, j1, j2⟩ := hb i (by omega) i2 i3
            exact ⟨j, by omega, by rw [up_ne _ _ (by omega)]; exact j2⟩
        · by_cases q : j = c
          · subst q
            rw [up_eq, up_ne _ _ (by omega)]
            have := (ha i hij).1.1
            omega
          · rw [up_ne _ _ q, up_ne _ _ (by omega)]; exact hd i j hij (by omega)
/-- a function of one input -/
theorem one_inp {G : Nat → Bool} {t : Nat} (ht : t < 10) (hG : NUm G (2 ^ t)) (hd : dep (fnOf G) t) : fnOf G = iteF t (fun _ => G 0) (fun _ => !G 0) := by
  have c0 : cof t false (fnOf G) = fun _ => G 0 := by
    funext x
    unfold cof fnOf
    refine hG.eq (num_lt _) (by decide) (fun i hi => ?_)
    have : i = t := by rw [Nat.testBit_two_pow] at hi; exact (of_decide_eq_true hi).symm
    subst this
    rw [tb_num10 _ ht, upA_s, Nat.zero_testBit]
  have c1 : cof t true (fnOf G) = fun _ => G (2 ^ t) := by
    funext x
    unfold cof fnOf
    refine hG.eq (num_lt _) (Nat.pow_lt_pow_right (a := 2) (n := 10) (by decide) ht) (fun i hi => ?_)
    have : i = t := by rw [Nat.testBit_two_pow] at hi; exact (of_decide_eq_true hi).symm
    subst this
    rw [tb_num10 _ ht, upA_s, Nat.testBit_two_pow_self]
  have ne : G (2 ^ t) = !G 0 := by
    have : G 0 ≠ G (2 ^ t) := fun q => hd (by rw [c0, c1, q])
    cases a : G 0 <;> cases b : G (2 ^ t)
    · exact absurd (a.trans b.symm) this
    · rfl
    · rfl
    · exact absurd (a.trans b.symm) this
  rw [← ite_cof t (fnOf G), c0, c1, ne]
theorem q_G_rootOf {p : Nat} {u : PS} (ns : NS L E R B0 o Fd rt ad S I ln z u e g D) (ho : PO o) (ft : FK F S I L) (hp : p < 24) (l6 : ln 6 = 24) (l30 : ln 30 = 10) (l31 : ln 31 = 32) (l32 : ln 32 = 32) (l33 : ln 33 = 16) (l34 : ln 34 = 16) (l35 : ln 35 = 10) (l36 : ln 36 = 10) (l37 : ln 37 = 10) (h37 : ∀ j : Nat, j < 10 → I 37 j = o j)
    {Q : Int32 → PS → Prop} (hQ : ∀ (u' : PS) (m e' : Nat) (ad' S' : Nat → Nat) (I' : Nat → Nat → Nat) (ln' : Nat → Nat) (z' : Nat × Nat) (g' : Nat → Nat) (D' : Nat → Fn) (L' : Nat → Nat → Int64), DG L' E R B0 e' o rt g D (fnOf (F p)) ad' S' I' ln' z' u' g' D' → IN g' m → D' m = fnOf (F p) → FK F S' I' L' → (∀ i : Nat, i ≠ 41 → L' i = L i) → (S' 0).testBit p = true → FX p ad S I ln ad' S' I' ln' → Q (nI m) u') : p_G_rootOf (ad 3) (nI p) (ad 37) u Q := by
  have h := ns.1
  have s10 : S 10 ≤ 3324 := by rw [ns.size ho]; exact wh_le ho
  unfold p_G_rootOf
  refine ⟨_, h.fG (by decide) rfl, h.obF (by decide), q_F_usedInputs h l6 ft hp (fun u1 S1 I1 k1 ft1 frf sure => ?_)⟩
  have fp := ft1.1 p hp
  have ns1 : NS L E R B0 o Fd rt ad S1 I1 ln z u1 e g D := ns.put k1 (fun s a b => frf.2.2.1 s (by omega)) (fun i a b => frf.2.1 i (by omega))
  have fx1 : FX p ad S I ln ad S1 I1 ln := FX.ofFRF frf
  have sub := (ft1.2.2.2 p hp sure).1
  obtain ⟨m, hm⟩ : ∃ m : Nat, m = I1 6 p := ⟨_, rfl⟩
  rw [← hm] at fp sub
  rw [← hm]
  obtain ⟨b1, b2, b3, b4, ⟨b5, b6, b7⟩, b8⟩ := ns1
  have B0e : B0 = 6400 := rfl
  refine ⟨_, k1.fG (by decide) rfl, k1.obF (by decide), q_F_bit (F := F) (v := 0) k1 l6 hp (by rw [← hm]; exact fp) (by decide) ?_⟩
  by_cases c0 : m = 0
  · refine brn_t (by rw [c0]; rfl) ?_
    rw [bI_n]
    have bb := b5.bit (F p 0)
    refine hQ u1 _ e ad S1 I1 ln z g D L ⟨b1, b2, b3, b4, b5, ⟨KP.rf g D, fun n hn => Or.inl hn⟩, b8⟩ bb.1 ?_ ft1 (fun _ _ => rfl) sure fx1
    rw [bb.2]
    funext x
    unfold fnOf
    have := fp.2.1 (numT x 10) (num_lt x)
    rw [c0, Nat.and_zero] at this
    exact this.symm
  · refine brn_f (fun w => c0 ((nI_0I (by have := fp.1; omega)).mp w)) (q_bc ?_)
    rw [pcI_1024 m fp.1]
    obtain ⟨pc0, pc10⟩ := pc_zero m fp.1 c0
    obtain ⟨c, hc⟩ : ∃ c : Nat, c = pc m 10 := ⟨_, rfl⟩
    rw [← hc] at pc0 pc10 ⊢
    obtain ⟨mw1, mw2, mw3, mw4⟩ := mn_w c (by omega)
    obtain ⟨N, hN⟩ : ∃ N : Nat, N = if 269 < 2 ^ c then 269 else 2 ^ c := ⟨_, rfl⟩
    rw [← hN] at mw1 mw2 mw3 mw4
    have S1S : S1 10 = S 10 := frf.2.2.1 10 (by decide)
    refine ⟨_, k1.fG (by decide) rfl, _, k1.fG (by decide) rfl, k1.obN (by decide), ?_⟩
    unfold p_N_wholeSize
    refine ⟨_, k1.fN (by decide) rfl, k1.obN (by decide), ?_⟩
    rw [mn_c c (by omega), ← hN, show (2 : Int32) = nI 2 from rfl, nI_add, nI_add]
    refine q_N_room b1 b2 b3 b4 b5 (fun q hq => (b6 q hq).1) (fun _ => Or.inl rfl) (N := 2 + S1 10 + N) (by omega) (fun u2 e2 ad2 S2 I2 ln2 z2 r0 r1 r2 r3 r4 r5 r6 r7 r8 => ?_)
    have fx2 : FX p ad S I ln ad2 S2 I2 ln2 := fx1.tr (FX.ofFG r5)
    have dg2 : DG L E R B0 e2 o rt g D (fnOf (F p)) ad2 S2 I2 ln2 z2 u2 g D := ⟨r1, r2, r3, r4, b5, ⟨KP.rf g D, fun n hn => Or.inl hn⟩, by rw [r6]; exact b8⟩
    have ft2 : FK F S2 I2 L := ft1.same (r5.2.1 0 (by omega)) (r5.2.1 1 (by omega)) (r5.1 6 (by omega)).2.2 (fun _ _ => rfl)
    have i6 : I2 6 p = m := by rw [(r5.1 6 (by omega)).2.2]; exact hm.symm
    have sure2 : (S2 0).testBit p = true := by rw [r5.2.1 0 (by omega)]; exact sure
    have q3 : ad2 3 = ad 3 := (r5.1 3 (by omega)).1
    have q37 : ad2 37 = ad 37 := (r5.1 37 (by omega)).1
    have lq : ∀ i : Nat, ¬ (7 ≤ i ∧ i < 24) → ln2 i = ln i := fun i hi => (r5.1 i hi).2.1
    rw [← q3, ← q37]
    by_cases c1 : c = 1
    · refine brn_t (by rw [c1]; rfl) ⟨_, r1.fG (by decide) rfl, ?_⟩
      obtain ⟨t, t1, t2⟩ := List.any_eq_true.mp (pc_one m fp.1 (by rw [← hc]; exact c1))
      have t10 : t < 10 := List.mem_range.mp t1
      have mt : m = 2 ^ t := by simpa using t2
      refine q_ntz (t := t) (by rw [mt]; exact LB.pw t) (by have := fp.1; omega) ⟨r1.obN (by decide), ?_⟩
      obtain ⟨j, hj, ej⟩ := ho.sur t10
      have hd : dep (fnOf (F p)) t := sub t t10 (by rw [mt]; exact Nat.testBit_two_pow_self)
      have one := one_inp t10 (by rw [← mt]; exact fp.2.1) hd
      have bb0 := b5.bit (F p 0)
      have bb1 := b5.bit (!F p 0)
      have e1 : (1 : Int32) - bI (F p 0) = nI (!F p 0).toNat := by cases F p 0 <;> rfl
      rw [e1, bI_n, ← ej]
      have nd : ∀ l : Nat, l < 10 → l ≠ j → ¬ dep (fnOf (F p)) (o l) := fun l hl hlj w => by
        refine fp.2.1.nd (ho.1 l hl) ?_ w
        rw [mt, ← ej, Nat.testBit_two_pow]
        exact decide_eq_false (fun q => hlj (ho.2 l j hl hj q.symm))
      have hit : iteF (o j) (D (F p 0).toNat) (D (!F p 0).toNat) = fnOf (F p) := by rw [bb0.2, bb1.2, ej]; exact one.symm
      refine dg2.mk ho hj bb0.1 bb1.1 (by rw [bb0.2]; exact const_dep _ _) (by rw [bb1.2]; exact const_dep _ _) ⟨fun _ => false, by rw [hit]; exact (fx_id ho (by omega) _ (fun l hl => nd l (by omega) (by omega))).symm⟩ (Or.inl (by omega)) (by omega) (fun u3 k ad3 S3 I3 ln3 z3 g3 D3 v1 v2 v3 v4 v5 v6 v7 v8 v9 => ?_)
      refine hQ u3 k e2 ad3 S3 I3 ln3 z3 g3 D3 L v1 v2 (by rw [v3]; exact hit) (ft2.same (v5.2.1 0 (by decide) (by decide) (by decide)) (v5.2.1 1 (by decide) (by decide) (by decide)) (v5.1 6 (by decide)) (fun _ _ => rfl)) (fun _ _ => rfl) (by rw [v5.2.1 0 (by decide) (by decide) (by decide)]; exact sure2) (fx2.tr (FX.ofFN v5 v6))
    · refine brn_f (fun w => c1 ((nI_eqI (b := 1) (by omega) (by decide)).mp w)) ⟨11, ?_⟩
      have h37' : ∀ j : Nat, j < 10 → I2 37 j = o j := fun j hj => by rw [fx2.2.1 37 (by omega) (by decide) (by decide)]; exact h37 j hj
      refine q_root_L91 (I := I2) (m := m) (by rw [lq 30 (by omega)]; exact l30) (by rw [lq 37 (by omega)]; exact l37) ho h37' fp.1 (fun u3 I3 c' pl k3 f3 ask hA => ?_) 11 10 0 u2 I2 (fun _ => 0) (by omega) (by omega) r1 (fun _ _ => rfl) (fun j hj => absurd hj (by omega)) (fun i i1 i2 => absurd i1 (by omega)) (fun i j _ hj => absurd hj (by omega))
      have ec : c' = c := by rw [hc]; exact ask.cnt ho
      subst ec
      have dg3 : DG L E R B0 e2 o rt g D (fnOf (F p)) ad2 S2 I3 ln2 z2 u3 g D := dg2.put k3 (fun i a b => f3 i (by omega))
      have i63 : I3 6 p = m := by rw [f3 6 (by decide)]; exact i6
      have fx3 : FX p ad S I ln ad2 S2 I3 ln2 := fx2.tr (FX.put30 f3)
      have ft3 : FK F S2 I3 L := ft2.same rfl rfl (f3 6 (by decide)) (fun _ _ => rfl)
      have fp3 := ft3.1 p hp
      unfold p_G_rootOf_J128
      by_cases c5 : 5 < c'
      · refine br_t (nI_lt (a := 5) (b := c') c5 (by omega)) ⟨k3.obG (by decide), q_G_ofWords (T := S2 10 + N) dg3 ho hp (by rw [lq 6 (by omega)]; exact l6) (by rw [lq 30 (by omega)]; exact l30) (by rw [lq 32 (by omega)]; exact l32) (by rw [lq 33 (by omega)]; exact l33) (by rw [lq 34 (by omega)]; exact l34) (by rw [lq 35 (by omega)]; exact l35) (by rw [lq 36 (by omega)]; exact l36) fp3 (by rw [i63]; exact ask) (by omega) hA (by omega) (by omega) (by have := mw1 c5; omega) (fun u4 k ad4 S4 I4 ln4 z4 g4 D4 r v1 v2 v3 v4 v5 v6 => ?_)⟩
        refine hQ u4 k e2 ad4 S4 I4 ln4 z4 g4 D4 _ v1 v2 v3 (ft3.same (v5.2.1 0 (by decide) (by decide) (by decide)) (v5.2.1 1 (by decide) (by decide) (by decide)) (v5.1 6 (by decide) (by decide)) (fun q _ => up_ne _ _ (by omega))) (fun i hi => up_ne _ _ hi) (by rw [v5.2.1 0 (by decide) (by decide) (by decide)]; exact sure2) (fx3.tr (FX.ofFW v5))
      · have pp : 0 < 2 ^ c' := Nat.pow_pos (by decide)
        have := mw2 c5
        refine br_f (Int32.not_lt.mpr (nI_le (a := c') (b := 5) (by omega) (by decide))) ⟨k3.obG (by decide), q_G_ofBits (T := S2 10 + N) dg3 ho hp (by rw [lq 6 (by omega)]; exact l6) (by rw [lq 30 (by omega)]; exact l30) (by rw [lq 31 (by omega)]; exact l31) (by rw [lq 32 (by omega)]; exact l32) fp3 (by rw [i63]; exact ask) (by omega) hA (by omega) (by omega) (by omega) (fun u4 k ad4 S4 I4 ln4 z4 g4 D4 v1 v2 v3 v4 v5 v6 => ?_)⟩
        refine hQ u4 k e2 ad4 S4 I4 ln4 z4 g4 D4 _ v1 v2 v3 (ft3.same (v5.2.1 0 (by decide) (by decide) (by decide)) (v5.2.1 1 (by decide) (by decide) (by decide)) (v5.1 6 (by decide) (by decide)) (fun _ _ => rfl)) (fun _ _ => rfl) (by rw [v5.2.1 0 (by decide) (by decide) (by decide)]; exact sure2) (fx3.tr (FX.ofFW v5))
end ROOT
