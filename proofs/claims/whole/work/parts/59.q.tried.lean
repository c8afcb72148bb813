/-! nodes that are tried -/
/-- the nodes' rows in a trial: g as it was, gt with what is tried, numbers from f0 on -/
def TM (e f0 : Nat) (g gt : Nat → Nat) (S : Nat → Nat) (I : Nat → Nat → Nat) (ln : Nat → Nat) : Prop :=
  (∀ n : Nat, 2 ≤ n → n < f0 → I 7 n = g n) ∧ (I 7 0 = 2684354560 ∧ I 7 1 = 2684354560) ∧ (∀ n : Nat, g n ≠ 0 → 2 ≤ n ∧ n < f0 ∧ g n < 2 ^ 32) ∧ (2 ≤ f0 ∧ f0 ≤ S 9 ∧ S 9 ≤ 2 ^ e) ∧
  HT e (I 11) (I 12) (fun n => gt n ≠ 0) gt ∧ UW e (I 11) gt f0 (S 9 - f0) (I 12) ∧ (∀ n : Nat, gt n ≠ 0 → 2 ≤ n ∧ n < S 9 ∧ gt n < 2 ^ 32 ∧ I 7 n = gt n) ∧ (∀ n : Nat, n < f0 → gt n = g n) ∧ (∀ n : Nat, f0 ≤ n → n < S 9 → gt n ≠ 0) ∧
  FRL (I 11) (S 8) f0 (S 10) g ∧ MBR (fun k => I (14 + k)) (I 9) (I 10) (fun n => g n ≠ 0 ∧ ¬ False) g ∧ ∀ k : Nat, k < 10 → I 9 k ≤ ln (14 + k)
section TRY
variable {ad S : Nat → Nat} {I : Nat → Nat → Nat} {ln : Nat → Nat} {L : Nat → Nat → Int64} {E : (Nat → Prop) × (Nat → Option PE)} {z R : Nat × Nat} {u : PS} {e f0 : Nat} {g gt rt xt : Nat → Nat}
theorem DS.tm (ds : DS e g (fun _ => False) S I ln) : TM e (S 9) g g S I ln := by
  have s9 := ds.s9
  obtain ⟨d1, d2, d3, d4, d5, d6, d7, d8⟩ := ds
  refine ⟨d1, d2, d3, ⟨s9, Nat.le_refl _, d4⟩, ?_, ?_, fun n hn => ?_, fun _ _ => rfl, fun n a b => absurd b (by omega), d6, d7, d8⟩
  · exact d5.congr (fun m => ⟨fun q => ⟨q, fun w => w⟩, fun q => q.1⟩) (fun _ _ => rfl) (fun _ _ => rfl)
  · rw [Nat.sub_self]
    refine d5.congr (fun m => ⟨fun q => ⟨q.2.2, fun w => w⟩, fun q => ?_⟩) (fun _ _ => rfl) (fun _ _ => rfl)
    have := d3 m q.1
    exact ⟨this.1, this.2.1, q.1⟩
  · have := d3 n hn
    exact ⟨this.1, this.2.1, this.2.2, d1 n this.1 this.2.1⟩
theorem TM.kf (tm : TM e f0 g gt S I ln) : KF e (I 7) (fun n => gt n ≠ 0) gt := fun n hn => by
  obtain ⟨_, _, _, ⟨_, _, a⟩, _, _, b, _⟩ := tm
  have := b n hn
  exact ⟨this.1, by omega, this.2.2.2, this.2.2.1⟩
theorem q_N_tried_L (h : VC 69 ad S I ln L E z u) (sh : SH R S ln z e) {w : Nat} (hw : w < 2 ^ 32) {x2 x5 : Int32} {E38 : Int32 → PS → Prop} {E53 : PS → Prop} : ∀ (l : List Nat) (hd s : Nat), chn (I 11) hd l → (∀ n : Nat, n ∈ l → 2 ≤ n ∧ n < 2 ^ e ∧ I 7 n = gt n ∧ gt n < 2 ^ 32) → s + l.length < 16384 → (∀ n : Nat, n ∈ l → gt n = w → E38 (nI n) u) → ((∀ n : Nat, n ∈ l → gt n ≠ w) → E53 u) → p_N_triedFor_L44 (ad 4) x2 (nI w) x5 E38 E53 (l.length + 1) (nI hd) (nI s) u := by
  have l2 := sh.le
  intro l
  induction l with
  | nil =>
    intro hd s hc _ _ _ h2
    rw [p_N_triedFor_L44]
    have : hd = 0 := hc
    subst this
    exact ⟨fun _ => h2 (fun n hn => absurd hn List.not_mem_nil), fun z => absurd rfl z⟩
  | cons a l ih =>
    intro hd s hc hf hs h1 h2
    obtain ⟨rfl, ha0, hc2⟩ := hc
    obtain ⟨f1, f2, f3, f4⟩ := hf hd List.mem_cons_self
    rw [List.length_cons] at hs
    rw [p_N_triedFor_L44, List.length_cons]
    refine ⟨fun z => absurd ((nI_0I (by omega)).mp z) ha0, fun _ => pk_le 16384 s (fun z => absurd z (by omega)) (fun _ => ?_)⟩
    refine ⟨_, h.fN (by decide) rfl, _, h.nia sh 7 n7 f2, ?_⟩
    rw [f3]
    refine eqn' f4 hw (fun z => h1 hd List.mem_cons_self z) (fun z => ?_)
    refine ⟨_, h.fN (by decide) rfl, _, h.nia sh 11 n11 f2, nm_e ?_⟩
    rw [nI_1]
    exact ih (I 11 hd) (s + 1) hc2 (fun n hn => hf n (List.mem_cons_of_mem _ hn)) (by omega) (fun n hn => h1 n (List.mem_cons_of_mem _ hn)) (fun q => h2 (fun n hn => by
      rcases List.mem_cons.mp hn with rfl | hn
      · exact z
      · exact q n hn))
theorem q_N_triedFor (h : VC 69 ad S I ln L E z u) (sh : SH R S ln z e) (tm : TM e f0 g gt S I ln) {k a b : Nat} (hk : k < 10) (ha : a < 16384) (hb : b < 16384) (hr : a ≠ b → S 9 < 2 ^ e)
    {Q : Int32 → PS → Prop} (h1 : ∀ m : Nat, MD gt k a b m → Q (nI m) u) (h2 : ∀ (u' : PS) (I' : Nat → Nat → Nat), a ≠ b → (∀ n : Nat, gt n ≠ cd k a b) → gt (S 9) = 0 → 2 ≤ S 9 → S 9 < 16384 → VC 69 ad (va_up S 9 (S 9 + 1)) I' ln L E z u' → TM e f0 g (va_up gt (S 9) (cd k a b)) (va_up S 9 (S 9 + 1)) I' ln → (∀ i : Nat, i ≠ 7 → i ≠ 11 → i ≠ 12 → I' i = I i) → Q (nI (S 9)) u') : p_N_triedFor (ad 4) (nI k) (nI a) (nI b) u Q := by
  have hle := sh.le
  have tm0 := tm
  obtain ⟨d1, d2, d3, ⟨d4, d5, d6⟩, d7, d8, d9, d10, d11, d12, d13, d14⟩ := tm
  have hcl : cd k a b < 2 ^ 32 := cd_lt (by omega) ha hb
  unfold p_N_triedFor
  refine eqn' (by omega) (by omega) (fun q => h1 a (Or.inl ⟨q, rfl⟩)) (fun q => nm_e ?_)
  rw [nI_cd ha hb]
  refine ⟨_, h.fN (by decide) rfl, nm_e ?_⟩
  rw [sh.hsh]
  obtain ⟨l, l1, l2, l3, l4, l5⟩ := d7.list tm0.kf sh.le (sh.hlt (cd k a b))
  refine ⟨_, h.fN (by decide) rfl, _, h.nia sh 12 n12 (sh.hlt _), l.length + 1, ?_⟩
  refine q_N_tried_L h sh hcl l _ 0 l1 l5 (by omega) (fun n hn e => h1 n (Or.inr ⟨q, e⟩)) (fun hno => ?_)
  have hno2 : ∀ n : Nat, gt n ≠ cd k a b := fun n hn => by
    have hg : gt n ≠ 0 := by rw [hn]; exact cd_ne q
    exact hno n ((l3 n).mpr ⟨hg, by rw [hn]⟩) hn
  have hroom := hr q
  have hg0 : gt (S 9) = 0 := Classical.byContradiction (fun w => by have := d9 _ w; omega)
  unfold p_N_triedFor_J87
  have an := h.an 7 (by decide) (ii (by decide))
  rw [sh.len n7] at an
  refine ⟨_, h.fN (by decide) rfl, _, h.fN (by decide) rfl, _, an, pk_lt (S 9) (2 ^ e) (fun _ => ?_) (fun w => absurd w (by omega))⟩
  obtain ⟨u1, s1, v1⟩ := h.nis sh 7 n7 hroom (cd k a b)
  refine ⟨_, h.fN (by decide) rfl, u1, s1, _, v1.fN (by decide) rfl, _, v1.fN (by decide) rfl, _, v1.nia sh 12 n12 (sh.hlt _), ?_⟩
  obtain ⟨u2, s2, v2⟩ := v1.nis sh 11 n11 hroom (I 12 (hsx e (cd k a b)))
  refine ⟨u2, s2, _, v2.fN (by decide) rfl, ?_⟩
  obtain ⟨u3, s3, v3⟩ := v2.nis sh 12 n12 (sh.hlt (cd k a b)) (S 9)
  refine ⟨u3, s3, _, v3.fN (by decide) rfl, ?_⟩
  rw [nI_1]
  obtain ⟨u4, s4, v4⟩ := v3.sN (by decide) 9 9 (S 9 + 1) (by decide) rfl rfl rfl rfl
  refine ⟨u4, s4, ?_⟩
  generalize hJ : va_up (va_up (va_up I 7 _) 11 _) 12 _ = J at v4
  have J7 : J 7 = va_up (I 7) (S 9) (cd k a b) := by rw [← hJ]; rfl
  have J11 : J 11 = va_up (I 11) (S 9) (I 12 (hsx e (cd k a b))) := by rw [← hJ]; rfl
  have J12 : J 12 = va_up (I 12) (hsx e (cd k a b)) (S 9) := by rw [← hJ]; rfl
  have Jo : ∀ i : Nat, i ≠ 7 → i ≠ 11 → i ≠ 12 → J i = I i := fun i q1 q2 q3 => by rw [← hJ, up_ne _ _ q3, up_ne _ _ q2, up_ne _ _ q1]
  have S9' : va_up S 9 (S 9 + 1) 9 = S 9 + 1 := up_eq _ _ _
  have gm : ∀ n : Nat, n ≠ S 9 → va_up gt (S 9) (cd k a b) n = gt n := fun n w => up_ne _ _ w
  refine h2 u4 J q hno2 hg0 (by omega) (by omega) v4 ⟨fun n q1 q2 => ?_, ?_, d3, ⟨d4, by rw [S9']; omega, by rw [S9']; omega⟩, ?_, ?_, fun n hn => ?_, fun n hn => ?_, fun n q1 q2 => ?_, ?_, ?_, fun l hl => ?_⟩ Jo
  · rw [J7, up_ne _ _ (by omega)]; exact d1 n q1 q2
  · rw [J7, up_ne _ _ (by omega), up_ne _ _ (by omega)]; exact d2
  · rw [J11, J12]
    have := d7.link (n := S 9) (K' := fun n => va_up gt (S 9) (cd k a b) n ≠ 0) (g' := va_up gt (S 9) (cd k a b)) (fun w => w hg0) (by omega) (fun m => ?_) (fun m hm => gm m (fun w => hm (by rw [w]; exact hg0)))
    · rw [up_eq] at this; exact this
    · by_cases c : m = S 9
      · subst c; rw [up_eq]; exact ⟨fun _ => Or.inr rfl, fun _ => cd_ne q⟩
      · rw [gm m c]; exact ⟨fun w => Or.inl w, fun w => w.resolve_right c⟩
  · rw [J11, J12, S9', show S 9 + 1 - f0 = S 9 - f0 + 1 by omega]
    have := UW.push (gt' := va_up gt (S 9) (cd k a b)) d4 d8 (fun n hn => gm n (by omega))
    rw [show f0 + (S 9 - f0) = S 9 by omega, up_eq] at this
    exact this
  · rw [S9', J7]
    by_cases c : n = S 9
    · subst c; rw [up_eq, up_eq]; exact ⟨by omega, by omega, hcl, rfl⟩
    · rw [gm n c] at hn ⊢
      have := d9 n hn
      rw [up_ne _ _ c]
      exact ⟨this.1, by omega, this.2.2⟩
  · rw [gm n (by omega)]; exact d10 n hn
  · rw [S9'] at q2
    by_cases c : n = S 9
    · subst c; rw [up_eq]; exact cd_ne q
    · rw [gm n c]; exact d11 n q1 (by omega)
  · rw [J11]
    obtain ⟨f, f1, f2, f3, f4⟩ := d12
    exact ⟨f, chn_congr f _ (fun x hx => up_ne _ _ (by have := (f3 x).mp hx; omega)) f1, f2, f3, f4⟩
  · rw [Jo 9 (by decide) (by decide) (by decide), Jo 10 (by decide) (by decide) (by decide)]
    exact d13.congr (fun _ => Iff.rfl) (fun k hk => ⟨Jo _ (by omega) (by omega) (by omega), rfl⟩) (fun _ _ => ⟨rfl, rfl⟩)
  · rw [Jo 9 (by decide) (by decide) (by decide)]; exact d14 l hl
theorem nI_dec (a : Nat) : nI (a + 1) + (-1 : Int32) = nI a := by
  rw [← nI_1, Int32.add_assoc, show (1 : Int32) + (-1) = 0 from by decide, Int32.add_zero]
theorem q_N_forgetTried_L (sh : SH R S ln z e) (hf : 2 ≤ f0) {X : PS → Prop} (hX : ∀ (u' : PS) (hd : Nat → Nat), VC 69 ad S (va_up I 12 hd) ln L E z u' → UW e (I 11) gt f0 0 hd → X u') : ∀ (d : Nat) (u : PS) (hd : Nat → Nat), f0 + d ≤ 2 ^ e → (∀ n : Nat, f0 ≤ n → n < f0 + d → I 7 n = gt n) → VC 69 ad S (va_up I 12 hd) ln L E z u → UW e (I 11) gt f0 d hd → p_N_forgetTried_L7 (ad 4) (nI f0) X (d + 1) (nI (f0 + d - 1)) u := by
  have hle := sh.le
  intro d
  induction d with
  | zero =>
    intro u hd hl hg h hu
    rw [p_N_forgetTried_L7]
    exact pk_lt (f0 + 0 - 1) f0 (fun _ => hX u hd h hu) (fun w => absurd w (by omega))
  | succ d ih =>
    intro u hd hl hg h hu
    rw [p_N_forgetTried_L7, show f0 + (d + 1) - 1 = f0 + d by omega]
    refine pk_lt (f0 + d) f0 (fun w => absurd w (by omega)) (fun _ => ?_)
    have r7 := h.nia sh 7 n7 (j := f0 + d) (by omega)
    rw [up_ne I _ (show (7 : Nat) ≠ 12 by decide), hg _ (by omega) (by omega)] at r7
    have r11 := h.nia sh 11 n11 (j := f0 + d) (by omega)
    rw [up_ne I _ (show (11 : Nat) ≠ 12 by decide)] at r11
    refine ⟨_, h.fN (by decide) rfl, _, h.fN (by decide) rfl, _, r7, _, h.fN (by decide) rfl, _, h.fN (by decide) rfl, _, r11, ?_⟩
    rw [sh.hsh]
    obtain ⟨u1, s1, h1⟩ := h.nis sh 12 n12 (sh.hlt (gt (f0 + d))) (I 11 (f0 + d))
    rw [up_eq, bx_uu] at h1
    refine ⟨u1, s1, nm_e ?_⟩
    have ed : nI (f0 + d) + (-1 : Int32) = nI (f0 + d - 1) := by
      have := nI_dec (f0 + d - 1)
      rw [show f0 + d - 1 + 1 = f0 + d by omega] at this
      exact this
    rw [ed]
    unfold UW at hu
    exact ih u1 _ (by omega) (fun n q1 q2 => hg n q1 (by omega)) h1 hu.2
/-- all that was tried is forgotten -/
theorem q_N_forgetTried (h : VC 69 ad S I ln L E z u) (sh : SH R S ln z e) (tm : TM e f0 g gt S I ln) {Q : PS → Prop} (hQ : ∀ (u' : PS) (hd : Nat → Nat), VC 69 ad (va_up S 9 f0) (va_up I 12 hd) ln L E z u' → DS e g (fun _ => False) (va_up S 9 f0) (va_up I 12 hd) ln → Q u') : p_N_forgetTried (ad 4) (nI f0) u Q := by
  have hle := sh.le
  obtain ⟨d1, d2, d3, ⟨d4, d5, d6⟩, d7, d8, d9, d10, d11, d12, d13, d14⟩ := tm
  unfold p_N_forgetTried
  refine ⟨_, h.fN (by decide) rfl, nm_e ?_⟩
  have e1 : nI (S 9) - (1 : Int32) = nI (S 9 - 1) := pk_sub (b := 1) (by omega)
  rw [e1]
  refine ⟨S 9 - f0 + 1, ?_⟩
  have e2 : S 9 - 1 = f0 + (S 9 - f0) - 1 := by omega
  rw [e2]
  refine q_N_forgetTried_L (I := I) (gt := gt) sh d4 (fun u1 hd h1 hu => ?_) (S 9 - f0) u (I 12) (by omega) (fun n q1 q2 => (d9 n (d11 n q1 (by omega))).2.2.2) (by rw [up_id]; exact h) d8
  unfold p_N_forgetTried_J43
  obtain ⟨u2, s2, h2⟩ := h1.sN (by decide) 9 9 f0 (by decide) rfl rfl rfl rfl
  refine ⟨u2, s2, hQ u2 hd h2 ⟨d1, d2, d3, by rw [up_eq]; omega, ?_, by rw [up_eq]; exact d12, ?_, d14⟩⟩
  · refine HT.congr hu (fun m => ⟨fun q => ?_, fun q => ⟨by rw [← d10 m q.2.1]; exact q.2.2, fun w => w⟩⟩) (fun m hm => (d10 m hm.2.1).symm) (fun _ _ => rfl)
    have := d3 m q.1
    exact ⟨this.1, this.2.1, by rw [d10 m this.2.1]; exact q.1⟩
  · exact d13.congr (fun _ => Iff.rfl) (fun k hk => ⟨up_ne _ _ (by omega), rfl⟩) (fun _ _ => ⟨rfl, rfl⟩)
/-- room in a trial -/
theorem q_N_roomT {W : Nat → Fn → Prop} {D : Nat → Fn} (h : VC 69 ad S I ln L E z u) (sh : SH R S ln z e) (tm : TM e f0 g gt S I ln) (rc : RC e g rt (fun _ => 0) (I 8)) (hc : CAN W g D) (hrt : ∀ p : Nat, p < 24 → IN g (rt p)) {N : Nat} (hN : N ≤ 16384)
    {Q : PS → Prop} (hQ : ∀ (u' : PS) (e' : Nat) (ad' S' : Nat → Nat) (I' : Nat → Nat → Nat) (ln' : Nat → Nat) (z' : Nat × Nat), e ≤ e' → N ≤ 2 ^ e' → VC 69 ad' S' I' ln' L E z' u' → SH R S' ln' z' e' → TM e' f0 g gt S' I' ln' → RC e' g rt (fun _ => 0) (I' 8) → FG ad S I ln ad' S' I' ln' → S' 9 = S 9 → S' 10 = S 10 → I' 9 = I 9 → (∀ i : Nat, ¬ isN i → ad' i = ad i ∧ I' i = I i ∧ ln' i = ln i) → (∀ s : Nat, s ≠ 7 → S' s = S s) → Q u') : p_N_makeRoomFor (ad 4) (nI N) u Q := by
  have tm0 := tm
  have h6 := sh.two
  obtain ⟨d1, d2, d3, ⟨d4, d5, d6⟩, d7, d8, d9, d10, d11, d12, d13, d14⟩ := tm
  have w7 : ∀ n : Nat, n < S 9 → I 7 n < 2 ^ 32 := fun n hn => by
    by_cases c : n < 2
    · rcases (by omega : n = 0 ∨ n = 1) with rfl | rfl
      · rw [d2.1]; decide
      · rw [d2.2]; decide
    · by_cases q : gt n = 0
      · have : n < f0 := Classical.byContradiction (fun w => d11 n (by omega) hn q)
        rw [d1 n (by omega) this, ← d10 n this, q]; decide
      · rw [(d9 n q).2.2.2]; exact (d9 n q).2.2.1
  refine q_N_makeRoomFor (f0 := f0) h sh hN d4 d5 (fun n q1 q2 => by rw [(d9 n (d11 n q1 q2)).2.2.2]; exact d11 n q1 q2) d6 w7 (fun a => hQ u e ad S I ln z (Nat.le_refl _) a h sh tm0 rc (FG.rf ad S I ln) rfl rfl rfl (fun _ _ => ⟨rfl, rfl, rfl⟩) (fun _ _ => rfl)) (fun u' e' ad' S' I' ln' z' a0 a1 a2 a3 a4 a5 a6 a7 a8 a9 a10 a11 a12 => ?_)
  have hlt : 2 ^ e < 2 ^ e' := Nat.pow_lt_pow_right (by decide) a0
  have S9 : S' 9 = S 9 := by rw [a4]; rfl
  have S8 : S' 8 = S 8 := by rw [a4]; rfl
  have S10 : S' 10 = S 10 := by rw [a4]; rfl
  have nN : ∀ i : Nat, (i < 7 ∨ i = 9 ∨ 14 ≤ i) → ¬ isN i := fun i hi c => by rcases c with c | c | c | c | c | c <;> omega
  have I9 : I' 9 = I 9 := (a5 9 (nN 9 (by omega))).2.1
  have i7 : ∀ n : Nat, n < 2 ^ e → I' 7 n = I 7 n := fun n hn => by rw [a6, ext_lt hn]
  have iff7 : ∀ m : Nat, gt m ≠ 0 ↔ 2 ≤ m ∧ m < S 9 ∧ I 7 m ≠ 0 := fun m => by
    constructor
    · intro q
      have w := d9 m q
      exact ⟨w.1, w.2.1, by rw [w.2.2.2]; exact q⟩
    · rintro ⟨q1, q2, q3⟩ q
      have : m < f0 := Classical.byContradiction (fun w => d11 m (by omega) q2 q)
      rw [d1 m q1 this, ← d10 m this] at q3
      exact q3 q
  refine hQ u' e' ad' S' I' ln' z' (by omega) a1 a2 a3 ⟨fun n q1 q2 => ?_, ?_, d3, ⟨d4, by omega, by omega⟩, ?_, ?_, fun n hn => ?_, d10, fun n q1 q2 => d11 n q1 (by omega), ?_, ?_, fun k hk => ?_⟩ (fun c hcl => ?_) ⟨fun i hi => ?_, fun s hs => ?_, fun b hb n => ?_, by rw [sh.len n7, a3.len n7]; omega⟩ S9 S10 I9 a5 (fun s hs => by rw [a4]; exact up_ne _ _ hs)
  · rw [i7 n (by omega)]; exact d1 n q1 q2
  · rw [i7 0 (by omega), i7 1 (by omega)]; exact d2
  · exact a11.congr iff7 (fun m hm => ((d9 m ((iff7 m).mpr hm)).2.2.2).symm) (fun _ _ => rfl)
  · rw [S9]
    refine UW.congr d4 (S 9 - f0) (I' 12) (fun n h2 hn => ⟨rfl, ?_⟩) a12
    rw [i7 n (by omega)]
    by_cases c : n < f0
    · rw [d1 n h2 c, d10 n c]
    · exact ((d9 n (d11 n (by omega) (by omega))).2.2.2).symm
  · have w := d9 n hn
    rw [S9, i7 n (by omega)]; exact w
  · rw [S8, S10]
    obtain ⟨l, l1, l2, l3, l4⟩ := d12
    refine ⟨l, chn_congr l _ (fun a ha => ?_) l1, l2, l3, l4⟩
    have w := (l3 a).mp ha
    exact a10 a (by omega) (Or.inl (by rw [d1 a w.1 w.2.1]; exact w.2.2))
  · refine d13.congr (fun _ => Iff.rfl) (fun k hk => ⟨(a5 _ (nN _ (by omega))).2.1, by rw [I9]⟩) (fun n hn => ⟨?_, rfl⟩)
    have w := d3 n hn.1
    rw [a8, ext_lt (by omega)]
  · rw [I9, (a5 _ (nN (14 + k) (by omega))).2.2]; exact d14 k hk
  · rw [a7]
    have inlt : ∀ c : Nat, IN g c → c < 2 ^ e := fun c hc => by
      rcases hc with hc | hc
      · omega
      · have := d3 c hc; omega
    by_cases c2 : c < 2 ^ e
    · rw [ext_lt c2]; exact rc c c2
    · rw [ext_ge (by omega), if_neg (by omega)]
      have nin : ¬ IN g c := fun q => c2 (inlt c q)
      have z1 : rf g c = 0 := Classical.byContradiction (fun q => nin (by
        obtain ⟨m, _, hm⟩ := (sumTo_pos (f := fun m => r1 (g m) c) 16384).mp (by unfold rf at q; omega)
        obtain ⟨b1, b2⟩ := r1_pos.mp hm
        rcases b2 with b2 | b2
        · rw [← b2]; exact hc.i0 b1
        · rw [← b2]; exact hc.i1 b1))
      have z2 : rr rt c = 0 := Classical.byContradiction (fun q => nin (by
        obtain ⟨p, hp, hm⟩ := (sumTo_pos (f := fun p => if rt p = c then 1 else 0) 24).mp (by unfold rr at q; omega)
        have : rt p = c := Classical.byContradiction (fun w => by rw [if_neg w] at hm; omega)
        rw [← this]; exact hrt p hp))
      rw [z1, z2]
      rfl
  · have w := a5 i (nN i (by omega))
    exact ⟨w.1, w.2.2, w.2.1⟩
  · rw [a4]; exact up_ne _ _ (by omega)
  · rw [a9]
    unfold ext
    split
    · exact hb n
    · omega
end TRY
