/-! nodeFor -/
/-- how often the answers are led to besides: the places lead to 0 at first without being counted -/
def alw (c : Nat) : Nat := if c = 0 then 1073741800 else 1073741824
theorem alw_b (c : Nat) : 1073741800 ≤ alw c ∧ alw c ≤ 1073741824 := by unfold alw; split <;> omega
def RC (e : Nat) (g rt xt ld : Nat → Nat) : Prop := ∀ c : Nat, c < 2 ^ e → ld c = (if c < 2 then alw c else 0) + rf g c + rr rt c + xt c
/-- rows of members alone have grown -/
def FA (ad ln ad' ln' : Nat → Nat) : Prop := ∀ i : Nat, ¬ (14 ≤ i ∧ i < 24) → ad' i = ad i ∧ ln' i = ln i
theorem FA.rf (ad ln : Nat → Nat) : FA ad ln ad ln := fun _ _ => ⟨rfl, rfl⟩
theorem FA.tr {ad ln ad' ln' ad'' ln'' : Nat → Nat} (h : FA ad ln ad' ln') (k : FA ad' ln' ad'' ln'') : FA ad ln ad'' ln'' := fun i hi => ⟨(k i hi).1.trans (h i hi).1, (k i hi).2.trans (h i hi).2⟩
section ND4
variable {ad S : Nat → Nat} {I : Nat → Nat → Nat} {ln : Nat → Nat} {L : Nat → Nat → Int64} {E : (Nat → Prop) × (Nat → Option PE)} {z R : Nat × Nat} {u : PS} {e : Nat} {g rt xt : Nat → Nat} {T : Nat → Prop}
theorem r1_cd {k a b c : Nat} (hab : a ≠ b) (ha : a < 16384) (hb : b < 16384) : r1 (cd k a b) c = (if a = c then 1 else 0) + (if b = c then 1 else 0) := by
  unfold r1
  rw [if_neg (cd_ne hab), n0_cd ha hb, n1_cd hb]
theorem RC.add {ld : Nat → Nat} (h : RC e g rt xt ld) {m k a b : Nat} (hm : m < 16384) (hg : g m = 0) (hab : a ≠ b) (ha : a < 16384) (hb : b < 16384) : RC e (va_up g m (cd k a b)) rt xt (va_up (va_up ld a (ld a + 1)) b (va_up ld a (ld a + 1) b + 1)) := by
  intro c hc
  have h1 := h c hc
  have h2 := rf_up g hm (cd k a b) c
  rw [hg, r1_0, r1_cd hab ha hb] at h2
  by_cases c1 : c = a
  · subst c1
    rw [up_ne _ _ hab, up_eq]
    rw [if_pos rfl, if_neg (Ne.symm hab)] at h2
    omega
  · by_cases c2 : c = b
    · subst c2
      rw [up_eq, up_ne _ _ c1]
      rw [if_neg (Ne.symm c1), if_pos rfl] at h2
      omega
    · rw [up_ne _ _ c2, up_ne _ _ c1]
      rw [if_neg (Ne.symm c1), if_neg (Ne.symm c2)] at h2
      omega
theorem q_N_nodeFor_J (h : VC 69 ad S I ln L E z u) (sh : SH R S ln z e) {m k a b : Nat} (hk : k < 10) (hab : a ≠ b) (ha : a < 2 ^ e) (hb : b < 2 ^ e) (hm2 : 2 ≤ m) (hme : m < 2 ^ e) (hms : m < S 9) (hg : g m = 0) (hTm : ¬ T m)
    (d1 : ∀ n : Nat, 2 ≤ n → n < S 9 → n ≠ m → I 7 n = g n) (d2 : I 7 0 = 2684354560 ∧ I 7 1 = 2684354560) (d3 : ∀ n : Nat, g n ≠ 0 → 2 ≤ n ∧ n < S 9 ∧ g n < 2 ^ 32) (d4 : S 9 ≤ 2 ^ e) (d5 : HT e (I 11) (I 12) (fun n => g n ≠ 0 ∧ ¬ T n) g) (d6 : FRL (I 11) (S 8) (S 9) (S 10 + 1) (va_up g m (cd k a b))) (d7 : MBR (fun k => I (14 + k)) (I 9) (I 10) (fun n => g n ≠ 0 ∧ ¬ T n) g) (d8 : ∀ k : Nat, k < 10 → I 9 k ≤ ln (14 + k)) (rc : RC e g rt xt (I 8))
    {Q : Int32 → PS → Prop} (hQ : ∀ (u' : PS) (ad' S' : Nat → Nat) (I' : Nat → Nat → Nat) (ln' : Nat → Nat) (z' : Nat × Nat), VC 69 ad' S' I' ln' L E z' u' → SH R S' ln' z' e → DS e (va_up g m (cd k a b)) T S' I' ln' → RC e (va_up g m (cd k a b)) rt xt (I' 8) → FN S I S' I' → FA ad ln ad' ln' → S' 8 = S 8 → S' 9 = S 9 → S' 10 = S 10 + 1 → I' 9 = va_up (I 9) k (I 9 k + 1) → (∀ n : Nat, n ≠ m → I' 11 n = I 11 n) → Q (nI m) u') : p_N_nodeFor_J98 Q (ad 4) (nI k) (nI a) (nI b) (nI (cd k a b)) (nI m) u := by
  have hle := sh.le
  have hcl : cd k a b < 2 ^ 32 := cd_lt (by omega) (by omega) (by omega)
  unfold p_N_nodeFor_J98
  obtain ⟨u1, s1, h1⟩ := h.nis sh 7 n7 hme (cd k a b)
  refine ⟨_, h.fN (by decide) rfl, u1, s1, h1.obN (by decide), q_N_link h1 sh hme (fun u2 h2 => ?_)⟩
  have x7 : va_up I 7 (va_up (I 7) m (cd k a b)) 7 m = cd k a b := by rw [up_eq, up_eq]
  have x11 : va_up I 7 (va_up (I 7) m (cd k a b)) 11 = I 11 := rfl
  have x12 : va_up I 7 (va_up (I 7) m (cd k a b)) 12 = I 12 := rfl
  rw [x7, x11, x12] at h2
  have y9 : va_up (va_up (va_up I 7 (va_up (I 7) m (cd k a b))) 11 (va_up (I 11) m (I 12 (hsx e (cd k a b))))) 12 (va_up (I 12) (hsx e (cd k a b)) m) 9 = I 9 := rfl
  have y10 : va_up (va_up (va_up I 7 (va_up (I 7) m (cd k a b))) 11 (va_up (I 11) m (I 12 (hsx e (cd k a b))))) 12 (va_up (I 12) (hsx e (cd k a b)) m) 10 = I 10 := rfl
  have yk : ∀ i : Nat, 13 ≤ i → va_up (va_up (va_up I 7 (va_up (I 7) m (cd k a b))) 11 (va_up (I 11) m (I 12 (hsx e (cd k a b))))) 12 (va_up (I 12) (hsx e (cd k a b)) m) i = I i := fun i hi => by
    rw [up_ne _ _ (by omega), up_ne _ _ (by omega), up_ne _ _ (by omega)]
  have hcn : I 9 k ≤ 16384 := MBR.le d7 (N := 16384) (fun n hn => by have := d3 n hn.1; omega) hk
  refine ⟨h2.obN (by decide), q_N_enlist h2 sh hme hk (by rw [y9]; exact d8 k hk) (by rw [y9]; exact hcn) (fun u3 ad' ln' z' row h3 r1 r2 r3 sh3 r4 r5 => ?_)⟩
  rw [y9, y10] at h3
  rw [y9] at r1 r2 r4
  have e4 : ad 4 = ad' 4 := (r3 4 (by omega)).1.symm
  generalize hI3 : va_up (va_up (va_up (va_up (va_up (va_up I 7 (va_up (I 7) m (cd k a b))) 11 (va_up (I 11) m (I 12 (hsx e (cd k a b))))) 12 (va_up (I 12) (hsx e (cd k a b)) m)) (14 + k) row) 10 (va_up (I 10) m (I 9 k))) 9 (va_up (I 9) k (I 9 k + 1)) = I3 at h3
  have a7 : ¬ (7 : Nat) = 14 + k := by omega
  have a8 : ¬ (8 : Nat) = 14 + k := by omega
  have a9 : ¬ (9 : Nat) = 14 + k := by omega
  have a10 : ¬ (10 : Nat) = 14 + k := by omega
  have a11 : ¬ (11 : Nat) = 14 + k := by omega
  have a12 : ¬ (12 : Nat) = 14 + k := by omega
  have a13 : ¬ (13 : Nat) = 14 + k := by omega
  have E7 : I3 7 = va_up (I 7) m (cd k a b) := by rw [← hI3]; simp [va_up, a7]
  have E8 : I3 8 = I 8 := by rw [← hI3]; simp [va_up, a8]
  have E9 : I3 9 = va_up (I 9) k (I 9 k + 1) := by rw [← hI3]; simp [va_up, a9]
  have E10 : I3 10 = va_up (I 10) m (I 9 k) := by rw [← hI3]; simp [va_up, a10]
  have E11 : I3 11 = va_up (I 11) m (I 12 (hsx e (cd k a b))) := by rw [← hI3]; simp [va_up, a11]
  have E12 : I3 12 = va_up (I 12) (hsx e (cd k a b)) m := by rw [← hI3]; simp [va_up, a12]
  have E13 : I3 13 = I 13 := by rw [← hI3]; simp [va_up, a13]
  have Ek : I3 (14 + k) = row := by rw [← hI3, up_ne _ _ (by omega), up_ne _ _ (by omega), up_eq]
  have Eo : ∀ i : Nat, i < 7 ∨ (14 ≤ i ∧ i ≠ 14 + k) → I3 i = I i := fun i hi => by
    rw [← hI3, up_ne _ _ (by omega), up_ne _ _ (by omega), up_ne _ _ (by omega), up_ne _ _ (by omega), up_ne _ _ (by omega), up_ne _ _ (by omega)]
  rw [e4]
  have ra := h3.nia sh3 8 n8 ha
  refine ⟨_, h3.fN (by decide) rfl, _, ra, ?_⟩
  rw [nI_1]
  obtain ⟨u4, s4, h4⟩ := h3.nis sh3 8 n8 ha (I3 8 a + 1)
  refine ⟨u4, s4, _, h4.fN (by decide) rfl, ?_⟩
  have rb := h4.nia sh3 8 n8 hb
  refine ⟨_, rb, ?_⟩
  rw [nI_1]
  obtain ⟨u5, s5, h5⟩ := h4.nis sh3 8 n8 hb (va_up I3 8 (va_up (I3 8) a (I3 8 a + 1)) 8 b + 1)
  refine ⟨u5, s5, _, h5.fN (by decide) rfl, ?_⟩
  rw [nI_1]
  obtain ⟨u6, s6, h6⟩ := h5.sN (by decide) 10 10 (S 10 + 1) (by decide) rfl rfl rfl rfl
  refine ⟨u6, s6, ?_⟩
  rw [up_eq, bx_uu] at h6
  have hK : ∀ n : Nat, (va_up g m (cd k a b) n ≠ 0 ∧ ¬ T n) ↔ (g n ≠ 0 ∧ ¬ T n) ∨ n = m := fun n => by
    by_cases c : n = m
    · subst c; rw [up_eq]; exact ⟨fun _ => Or.inr rfl, fun _ => ⟨cd_ne hab, hTm⟩⟩
    · rw [up_ne _ _ c]; exact ⟨fun q => Or.inl q, fun q => q.resolve_right c⟩
  have hgm : ∀ n : Nat, g n ≠ 0 ∧ ¬ T n → va_up g m (cd k a b) n = g n := fun n hn => up_ne _ _ (fun q => hn.1 (q ▸ hg))
  have nK : ¬ (g m ≠ 0 ∧ ¬ T m) := fun q => q.1 hg
  have F8 : va_up I3 8 (va_up (va_up (I3 8) a (I3 8 a + 1)) b (va_up (I3 8) a (I3 8 a + 1) b + 1)) 8 = va_up (va_up (I 8) a (I 8 a + 1)) b (va_up (I 8) a (I 8 a + 1) b + 1) := by rw [up_eq, E8]
  have Fo : ∀ i : Nat, i ≠ 8 → va_up I3 8 (va_up (va_up (I3 8) a (I3 8 a + 1)) b (va_up (I3 8) a (I3 8 a + 1) b + 1)) i = I3 i := fun i hi => up_ne _ _ hi
  refine hQ u6 ad' _ _ ln' z' h6 (sh3.s rfl) ⟨fun n n2 n3 => ?_, ?_, fun n hn => ?_, d4, ?_, ?_, ?_, fun l hl => ?_⟩ ?_ ⟨fun i hi => by rw [Fo i (by omega)]; exact Eo i (by omega), fun s _ _ c => up_ne _ _ c, by rw [Fo 13 (by decide)]; exact E13⟩ r3 rfl rfl rfl (by rw [Fo 9 (by decide)]; exact E9) (fun n hn => by rw [Fo 11 (by decide), E11, up_ne _ _ hn])
  · rw [Fo 7 (by decide), E7]
    by_cases c : n = m
    · subst c; rw [up_eq, up_eq]
    · rw [up_ne _ _ c, up_ne _ _ c]; exact d1 n n2 n3 c
  · rw [Fo 7 (by decide), E7, up_ne _ _ (by omega), up_ne _ _ (by omega)]; exact d2
  · by_cases c : n = m
    · subst c; rw [up_eq]; exact ⟨hm2, hms, hcl⟩
    · rw [up_ne _ _ c] at hn ⊢; exact d3 n hn
  · rw [Fo 11 (by decide), Fo 12 (by decide), E11, E12]
    have := d5.link nK (by omega) hK hgm
    rw [up_eq] at this
    exact this
  · rw [Fo 11 (by decide), E11]
    obtain ⟨l, l1, l2, l3, l4⟩ := d6
    refine ⟨l, chn_congr l _ (fun q hq => up_ne _ _ (fun w => ?_)) l1, l2, l3, l4⟩
    have := ((l3 q).mp hq).2.2
    rw [w, up_eq] at this
    exact cd_ne hab this
  · rw [Fo 9 (by decide), Fo 10 (by decide), E9, E10]
    refine MBR.add d7 nK hk (by rw [up_eq]; exact nk_cd (by omega) (by omega)) hK hgm (fun i hi => ?_) ?_ (fun l hl hne => ?_)
    · rw [Fo _ (by omega), Ek, r1 i hi, yk _ (by omega)]
    · rw [Fo _ (by omega), Ek, r2]
    · rw [Fo _ (by omega), Eo _ (by omega)]
  · rw [Fo 9 (by decide), E9]
    by_cases c : l = k
    · subst c; rw [up_eq]; exact r4
    · rw [up_ne _ _ c, r5 l hl c]; exact d8 l hl
  · rw [F8]
    exact rc.add (by omega) hg hab (by omega) (by omega)
/-- the node of an input and two next ones -/
theorem q_N_nodeFor (h : VC 69 ad S I ln L E z u) (sh : SH R S ln z e) (ds : DS e g T S I ln) (rc : RC e g rt xt (I 8)) {k a b : Nat} (hk : k < 10) (ha : IN g a) (hb : IN g b) (hT : a ≠ b → ∀ t : Nat, T t → g t ≠ cd k a b) (hTz : ∀ t : Nat, T t → g t ≠ 0) (hr : a ≠ b → (∀ n : Nat, g n ≠ cd k a b) → S 10 + 2 < 2 ^ e)
    {Q : Int32 → PS → Prop} (h1 : ∀ m : Nat, MD g k a b m → Q (nI m) u) (h2 : ∀ (u' : PS) (m : Nat) (ad' S' : Nat → Nat) (I' : Nat → Nat → Nat) (ln' : Nat → Nat) (z' : Nat × Nat), a ≠ b → (∀ n : Nat, g n ≠ cd k a b) → g m = 0 → 2 ≤ m → m < 16384 → VC 69 ad' S' I' ln' L E z' u' → SH R S' ln' z' e → DS e (va_up g m (cd k a b)) T S' I' ln' → RC e (va_up g m (cd k a b)) rt xt (I' 8) → FN S I S' I' → FA ad ln ad' ln' → (S' 9 = S 9 ∨ S' 9 = S 10 + 3) → S' 10 = S 10 + 1 → I' 9 = va_up (I 9) k (I 9 k + 1) → (∀ n : Nat, n ≠ m → I' 11 n = I 11 n) → Q (nI m) u') : p_N_nodeFor (ad 4) (nI k) (nI a) (nI b) u Q := by
  have hle := sh.le
  have ds0 := ds
  obtain ⟨d1, d2, d3, d4, d5, d6, d7, d8⟩ := ds
  have e2 : 2 ≤ 2 ^ e := by
    have := sh.1
    exact Nat.le_trans (show 2 ≤ 2 ^ 1 by decide) (Nat.pow_le_pow_right (by decide) (by omega))
  have lt : ∀ c : Nat, IN g c → c < 2 ^ e := fun c hc => by
    rcases hc with hc | hc
    · omega
    · have := d3 c hc; omega
  have la := lt a ha
  have lb := lt b hb
  have hcl : cd k a b < 2 ^ 32 := cd_lt (by omega) (by omega) (by omega)
  unfold p_N_nodeFor
  refine eqn' (by omega) (by omega) (fun q => h1 a (Or.inl ⟨q, rfl⟩)) (fun q => nm_e ?_)
  rw [nI_cd (by omega) (by omega)]
  refine ⟨h.obN (by decide), q_N_found h sh d5 ds0.kf hcl (fun n hn hc => ?_) (fun hno => ?_)⟩
  · have := d3 n hn.1
    exact ⟨fun _ => h1 n (Or.inr ⟨q, hc⟩), fun w => absurd ((nI_0I (by omega)).mp w) (by omega)⟩
  · have hno2 : ∀ n : Nat, g n ≠ cd k a b := fun n hn => by
      by_cases c : T n
      · exact hT q n c hn
      · exact hno n ⟨by rw [hn]; exact cd_ne q, c⟩ hn
    have hroom := hr q hno2
    refine ⟨fun w => absurd rfl w, fun _ => ⟨_, h.fN (by decide) rfl, ?_⟩⟩
    obtain ⟨l, l1, l2, l3, l4⟩ := d6
    have J : ∀ (m : Nat) (S1 : Nat → Nat) (u1 : PS), VC 69 ad S1 I ln L E z u1 → S1 7 = S 7 → (∀ s : Nat, s ≠ 8 → s ≠ 9 → S1 s = S s) → 2 ≤ m → m < 2 ^ e → m < S1 9 → g m = 0 → (∀ n : Nat, n < S1 9 → n ≠ m → n < S 9) → S 9 ≤ S1 9 → S1 9 ≤ 2 ^ e → FRL (I 11) (S1 8) (S1 9) (S 10 + 1) (va_up g m (cd k a b)) → (S1 9 = S 9 ∨ S1 9 = S 10 + 3) → p_N_nodeFor_J98 Q (ad 4) (nI k) (nI a) (nI b) (nI (cd k a b)) (nI m) u1 := by
      intro m S1 u1 v1 s7 so m2 me ms mg hlt hle2 he1 hf h9
      have s10 : S1 10 = S 10 := so 10 (by decide) (by decide)
      refine q_N_nodeFor_J v1 (sh.s s7) hk q la lb m2 me ms mg (fun w => hTz m w mg) (fun n a1 a2 a3 => d1 n a1 (hlt n a2 a3)) d2 (fun n hn => ?_) he1 d5 (by rw [s10]; exact hf) d7 d8 rc (fun u' ad' S' I' ln' z' w1 w2 w3 w4 w5 w6 w7 w8 w9 w10 w11 => ?_)
      · have := d3 n hn; exact ⟨this.1, by omega, this.2.2⟩
      · refine h2 u' m ad' S' I' ln' z' q hno2 mg m2 (by omega) w1 w2 w3 w4 ⟨w5.1, fun s a1 a2 a3 => (w5.2.1 s a1 a2 a3).trans (so s a1 a2), w5.2.2⟩ w6 (by rw [w8]; exact h9) (by rw [w9, s10]) w10 w11
    have an := h.an 7 (by decide) (ii (by decide))
    rw [sh.len n7] at an
    refine ⟨fun w => ?_, fun w => ?_⟩
    · have hf0 : S 8 = 0 := by
        have : S 8 < 2 ^ 32 := by
          cases l with
          | nil => rw [show S 8 = 0 from l1]; decide
          | cons x l =>
            have hx := (l3 x).mp List.mem_cons_self
            rw [show S 8 = x from l1.1]; omega
        exact (nI_0I this).mp w
      have hl0 : l = [] := by
        cases l with
        | nil => rfl
        | cons x l => obtain ⟨w1, w2, _⟩ := l1; exact absurd (w1.symm.trans hf0) w2
      subst hl0
      have h9 : S 9 = S 10 + 2 := by rw [List.length_nil] at l4; omega
      refine ⟨_, h.fN (by decide) rfl, ?_⟩
      unfold p_N_nodeFor_J51
      refine ⟨_, h.fN (by decide) rfl, _, an, pk_lt (S 9) (2 ^ e) (fun _ => ?_) (fun w => absurd w (by omega))⟩
      refine ⟨_, h.fN (by decide) rfl, eqn' (by omega) (by omega) (fun w => absurd w (by omega)) (fun _ => ⟨_, h.fN (by decide) rfl, ?_⟩)⟩
      rw [nI_1]
      obtain ⟨u1, s1, v1⟩ := h.sN (by decide) 9 9 (S 9 + 1) (by decide) rfl rfl rfl rfl
      refine ⟨u1, s1, J (S 9) _ u1 v1 rfl (fun s _ a2 => up_ne _ _ a2) (by omega) (by omega) (by rw [up_eq]; omega) ?_ (fun n a1 a2 => by rw [up_eq] at a1; omega) (by rw [up_eq]; omega) (by rw [up_eq]; omega) ?_ (Or.inr (by rw [up_eq]; omega))⟩
      · exact Classical.byContradiction (fun w => by have := d3 _ w; omega)
      · refine ⟨[], l1, l2, fun n => ?_, by rw [List.length_nil, up_eq]; omega⟩
        constructor
        · intro w; exact absurd w List.not_mem_nil
        · rintro ⟨w1, w2, w3⟩
          rw [up_eq] at w2
          by_cases c : n = S 9
          · subst c; rw [up_eq] at w3; exact absurd w3 (cd_ne q)
          · rw [up_ne _ _ c] at w3
            exact (l3 n).mpr ⟨w1, by omega, w3⟩
    · have hf0 : S 8 ≠ 0 := fun c => w (by show nI (S 8) = 0; rw [c]; rfl)
      obtain ⟨l', el, lc⟩ := chn_hd l1 hf0
      subst el
      have hx := (l3 (S 8)).mp List.mem_cons_self
      have hd2 := List.nodup_cons.mp l2
      refine ⟨_, h.fN (by decide) rfl, ?_⟩
      unfold p_N_nodeFor_J51
      refine ⟨_, h.fN (by decide) rfl, _, an, pk_lt (S 8) (2 ^ e) (fun _ => ?_) (fun w => absurd w (by omega))⟩
      refine ⟨_, h.fN (by decide) rfl, eqn' (by omega) (by omega) (fun _ => ?_) (fun w => absurd rfl w)⟩
      have r11 := h.nia sh 11 n11 (j := S 8) (by omega)
      obtain ⟨u1, s1, v1⟩ := h.sN (by decide) 8 8 (I 11 (S 8)) (by decide) rfl rfl rfl rfl
      refine ⟨_, h.fN (by decide) rfl, _, r11, u1, s1, J (S 8) _ u1 v1 rfl (fun s a1 _ => up_ne _ _ a1) hx.1 (by omega) hx.2.1 hx.2.2 (fun n a1 _ => a1) (Nat.le_refl _) d4 ?_ (Or.inl rfl)⟩
      refine ⟨l', ?_, hd2.2, fun n => ?_, ?_⟩
      · rw [up_eq]; exact lc
      · by_cases c : n = S 8
        · subst c; rw [up_eq]
          exact ⟨fun w => absurd w hd2.1, fun w => absurd w.2.2 (cd_ne q)⟩
        · rw [up_ne _ _ c]
          have := l3 n
          rw [List.mem_cons] at this
          exact ⟨fun w => this.mp (Or.inr w), fun w => (this.mpr w).resolve_left c⟩
      · rw [List.length_cons] at l4
        show l'.length + (S 10 + 1) + 2 = S 9
        omega
end ND4
