/-! Long.numberOfTrailingZeros(); ones(), firstOne(), support -/
theorem i32_n (y : Int32) : y = nI y.toBitVec.toNat := b_ext (fun i hi => by
  rw [bt_nI _ hi]; exact (BitVec.testBit_toNat _).symm)
theorem q_ntzb {y : Int32} {t : Nat} (ht : t < 32) (h1 : bt y t = true) (h0 : ∀ i : Nat, i < t → bt y i = false) {u : PS} {K : Int32 → PS → Prop} (hK : K (nI t) u) : p_JI_numberOfTrailingZeros y u K := by
  obtain ⟨n, hn⟩ : ∃ n : Nat, n = y.toBitVec.toNat := ⟨_, rfl⟩
  have lt : n < 2 ^ 32 := by rw [hn]; exact y.toBitVec.isLt
  have tb : ∀ i : Nat, n.testBit i = bt y i := fun i => by rw [hn]; exact BitVec.testBit_toNat _
  have e : y = nI n := by rw [hn]; exact i32_n y
  have pos : 0 < n := by
    refine Nat.pos_of_ne_zero (fun q => ?_)
    have := tb t
    rw [q, Nat.zero_testBit, h1] at this
    exact absurd this (by decide)
  obtain ⟨t', ht'⟩ := LB.ex n pos
  have et : t' = t := by
    have a := ht'.at
    rw [tb] at a
    by_cases c : t' < t
    · rw [h0 t' c] at a; exact absurd a (by decide)
    · by_cases d : t < t'
      · have b := ht'.lo d
        rw [tb, h1] at b
        exact absurd b (by decide)
      · omega
  subst et
  rw [e]
  exact q_ntz ht' lt hK
theorem q_ntzL {x : Int64} {t : Nat} (ht : t < 64) (h1 : WB x t = true) (h0 : ∀ i : Nat, i < t → WB x i = false) {u : PS} {K : Int32 → PS → Prop} (hK : K (nI t) u) : p_JL_numberOfTrailingZeros x u K := by
  unfold p_JL_numberOfTrailingZeros
  refine nm_e ?_
  by_cases c : t < 32
  · refine ⟨fun _ => q_ntzb c (by rw [bt_32 _ c]; exact h1) (fun i hi => by rw [bt_32 _ (by omega)]; exact h0 i hi) hK, fun e => ?_⟩
    have a := bt_32 x c
    rw [h1, e] at a
    exact absurd (a.symm.trans (show bt (nI 0) t = false by rw [bt_nI _ c, Nat.zero_testBit])) (by decide)
  · refine ⟨fun e => absurd (b_ext (fun i hi => ?_)) e, fun _ => ?_⟩
    · rw [bt_32 _ hi, h0 i (by omega)]
      exact (show bt (nI 0) i = false by rw [bt_nI _ hi, Nat.zero_testBit]).symm
    · refine q_ntzb (t := t - 32) (by omega) ?_ (fun i hi => ?_) ?_
      · rw [bt_32 _ (by omega), show (32 : Int32) = nI 32 from rfl, w_ushr (by decide), show 32 + (t - 32) = t by omega]; exact h1
      · rw [bt_32 _ (by omega), show (32 : Int32) = nI 32 from rfl, w_ushr (by decide)]; exact h0 _ (by omega)
      · rw [show (32 : Int32) = nI 32 from rfl, nI_add, show 32 + (t - 32) = t by omega]; exact hK
theorem lst_some {f : Nat → Bool} {n : Nat} (h1 : f n = true) : ∀ d v : Nat, v ≤ n → n < v + d → (∀ i : Nat, v ≤ i → i < n → f i = false) → lstU f d v = nI n := by
  intro d
  induction d with
  | zero => intro v h2 h3; exact absurd h3 (by omega)
  | succ d ih =>
    intro v h2 h3 h4
    rw [lstU]
    by_cases c : v = n
    · subst c; rw [if_pos h1]
    · rw [h4 v (Nat.le_refl _) (by omega), if_neg (by decide)]
      exact ih (v + 1) (by omega) (by omega) (fun i a b => h4 i (by omega) b)
theorem lst_none {f : Nat → Bool} : ∀ d v : Nat, (∀ i : Nat, v ≤ i → i < v + d → f i = false) → lstU f d v = -1 := by
  intro d
  induction d with
  | zero => intro v _; rw [lstU]
  | succ d ih =>
    intro v h4
    rw [lstU, h4 v (Nat.le_refl _) (by omega), if_neg (by decide)]
    exact ih (v + 1) (fun i a b => h4 i (by omega) (by omega))
theorem cntT_64 (f : Nat → Bool) (n : Nat) : cntT f (64 * n) = sumTo (fun w => cntT (fun b => f (64 * w + b)) 64) n := by
  induction n with
  | zero => rfl
  | succ n ih => rw [sumTo, ← ih, show 64 * (n + 1) = 64 * n + 64 by omega, cntT_add]
theorem sumTo_congr {f g : Nat → Nat} : ∀ n : Nat, (∀ i : Nat, i < n → f i = g i) → sumTo f n = sumTo g n := by
  intro n
  induction n with
  | zero => intro _; rfl
  | succ n ih => intro h; rw [sumTo, sumTo, ih (fun i hi => h i (by omega)), h n (by omega)]
def ksum (g : Nat → Nat) (kept w : Nat) : Nat := sumTo (fun y => if y &&& kept = y then g y else 0) w
theorem ks_s (g : Nat → Nat) {kept w : Nat} (hk : kept < 16) (hw : w < 16) (hs : w &&& kept = w) : ksum g kept (nxw kept w) = ksum g kept w + g w := by
  obtain ⟨n1, n2, _⟩ := nxw_s kept hk w hw hs
  have st : ∀ d : Nat, w + 1 + d ≤ nxw kept w → ksum g kept (w + 1 + d) = ksum g kept w + g w := by
    intro d
    induction d with
    | zero => intro _; unfold ksum; rw [Nat.add_zero, sumTo, if_pos hs]
    | succ d ih =>
      intro hd
      have := ih (by omega)
      unfold ksum at this ⊢
      rw [show w + 1 + (d + 1) = (w + 1 + d) + 1 by omega, sumTo, this, if_neg (fun q => ?_), Nat.add_zero]
      have := nxw_g kept hk w hw hs _ (show w + 1 + d < nxw kept w by omega) q
      omega
  have := st (nxw kept w - (w + 1)) (by omega)
  rw [show w + 1 + (nxw kept w - (w + 1)) = nxw kept w by omega] at this
  exact this
theorem ks_all (g : Nat → Nat) : ∀ kept : Nat, kept < 16 → sumTo (fun w => g (w &&& kept)) 16 = ksum g kept 16 * 2 ^ pc (15 ^^^ kept) 4 := by
  intro kept hk
  have h16 : kept = 0 ∨ kept = 1 ∨ kept = 2 ∨ kept = 3 ∨ kept = 4 ∨ kept = 5 ∨ kept = 6 ∨ kept = 7 ∨ kept = 8 ∨ kept = 9 ∨ kept = 10 ∨ kept = 11 ∨ kept = 12 ∨ kept = 13 ∨ kept = 14 ∨ kept = 15 := by omega
  rcases h16 with rfl | rfl | rfl | rfl | rfl | rfl | rfl | rfl | rfl | rfl | rfl | rfl | rfl | rfl | rfl | rfl
  · rw [show pc (15 ^^^ 0) 4 = 4 by decide]; simp [ksum, sumTo]; try omega
  · rw [show pc (15 ^^^ 1) 4 = 3 by decide]; simp [ksum, sumTo]; try omega
  · rw [show pc (15 ^^^ 2) 4 = 3 by decide]; simp [ksum, sumTo]; try omega
  · rw [show pc (15 ^^^ 3) 4 = 2 by decide]; simp [ksum, sumTo]; try omega
  · rw [show pc (15 ^^^ 4) 4 = 3 by decide]; simp [ksum, sumTo]; try omega
  · rw [show pc (15 ^^^ 5) 4 = 2 by decide]; simp [ksum, sumTo]; try omega
  · rw [show pc (15 ^^^ 6) 4 = 2 by decide]; simp [ksum, sumTo]; try omega
  · rw [show pc (15 ^^^ 7) 4 = 1 by decide]; simp [ksum, sumTo]; try omega
  · rw [show pc (15 ^^^ 8) 4 = 3 by decide]; simp [ksum, sumTo]; try omega
  · rw [show pc (15 ^^^ 9) 4 = 2 by decide]; simp [ksum, sumTo]; try omega
  · rw [show pc (15 ^^^ 10) 4 = 2 by decide]; simp [ksum, sumTo]; try omega
  · rw [show pc (15 ^^^ 11) 4 = 1 by decide]; simp [ksum, sumTo]; try omega
  · rw [show pc (15 ^^^ 12) 4 = 2 by decide]; simp [ksum, sumTo]; try omega
  · rw [show pc (15 ^^^ 13) 4 = 1 by decide]; simp [ksum, sumTo]; try omega
  · rw [show pc (15 ^^^ 14) 4 = 1 by decide]; simp [ksum, sumTo]; try omega
  · rw [show pc (15 ^^^ 15) 4 = 0 by decide]; simp [ksum, sumTo]; try omega
theorem pc_left : ∀ kept : Nat, kept < 16 → pcI (lfO kept) = nI (pc (15 ^^^ kept) 4) ∧ pc (15 ^^^ kept) 4 < 32 := by decide +kernel
section FU8
variable {ad S : Nat → Nat} {I : Nat → Nat → Nat} {ln : Nat → Nat} {L : Nat → Nat → Int64} {E : (Nat → Prop) × (Nat → Option PE)} {z : Nat × Nat} {u : PS} {F : Nat → Nat → Bool}
theorem q_F_ones_L (h : VC 69 ad S I ln L E z u) {p kept : Nat} (hp : p < 24) (hk : kept < 16) {X : Int32 → PS → Prop} (hX : X (nI (ksum (fun y => cntT (WB (L (42 + p) y)) 64) kept 16)) u) : ∀ d w : Nat, 16 < w + d → w ≤ 16 → (w < 16 → w &&& kept = w) → p_F_ones_L22 (ad (42 + p)) (lfO kept) X d (nI (ksum (fun y => cntT (WB (L (42 + p) y)) 64) kept w)) (nI w) u := by
  intro d
  induction d with
  | zero => intro w h1 h2; exact absurd h1 (by omega)
  | succ d ih =>
    intro w h1 h2 hs'
    rw [p_F_ones_L22]
    refine pk_le 16 w (fun cc => ?_) (fun cc => ?_)
    · obtain rfl : w = 16 := by omega
      exact hX
    · have hs'' := hs' cc
      obtain ⟨n1, n2, n3⟩ := nxw_s kept hk w cc hs''
      refine ⟨_, h.la (by decide) (42 + p) (by omega) cc, q_bcL (nm_e (nm_e ?_))⟩
      rw [nxw_e kept hk w cc, pcL_n, nI_add, ← ks_s (fun y => cntT (WB (L (42 + p) y)) 64) hk cc hs'']
      exact ih (nxw kept w) (by omega) n2 n3
theorem q_F_ones (h : VC 69 ad S I ln L E z u) (l6 : ln 6 = 24) (ft : FK F S I L) {p : Nat} (hp : p < 24) {K : Int32 → PS → Prop} (hK : K (nI (cntT (F p) 1024)) u) : p_F_ones (ad 1) (nI p) u K := by
  have fp := ft.1 p hp
  have hk : I 6 p / 64 < 16 := d64_16 fp.1
  unfold p_F_ones
  refine ⟨_, h.fF (by decide) rfl, _, h.ra (by decide) hp, h.obF (by decide), q_F_kept h l6 hp fp.1 ?_⟩
  unfold p_F_leftOut
  refine ⟨17, q_F_ones_L h hp hk (X := fun (y4_13 : Int32) (u_14 : PS) => (p_F_ones_J56 K (lfO (I 6 p / 64)) y4_13 u_14)) ?_ 17 0 (by omega) (by omega) (fun _ => Nat.zero_and _)⟩
  unfold p_F_ones_J56
  obtain ⟨e1, e2⟩ := pc_left _ hk
  refine q_bc ?_
  rw [e1, nI_shl e2, ← ks_all _ _ hk]
  have e : cntT (F p) 1024 = sumTo (fun w => cntT (WB (L (42 + p) (w &&& I 6 p / 64))) 64) 16 := by
    rw [show 1024 = 64 * 16 from rfl, cntT_64]
    exact sumTo_congr 16 (fun w hw => cntT_congr (fun b hb => (fp.w hw hb).symm))
  rw [← e]
  exact hK
theorem q_F_first_L (h : VC 69 ad S I ln L E z u) {p kept : Nat} (hp : p < 24) (hk : kept < 16) {X : Int32 → PS → Prop} {Y : PS → Prop} (hX : ∀ w : Nat, w < 16 → w &&& kept = w → (∀ y : Nat, y < w → y &&& kept = y → L (42 + p) y = 0) → L (42 + p) w ≠ 0 → X (nI w) u) (hY : (∀ y : Nat, y < 16 → y &&& kept = y → L (42 + p) y = 0) → Y u) : ∀ d w : Nat, 16 < w + d → w ≤ 16 → (w < 16 → w &&& kept = w) → (∀ y : Nat, y < w → y &&& kept = y → L (42 + p) y = 0) → p_F_firstOne_L19 (ad (42 + p)) (lfO kept) X Y d (nI w) u := by
  intro d
  induction d with
  | zero => intro w h1 h2; exact absurd h1 (by omega)
  | succ d ih =>
    intro w h1 h2 hs' hi
    rw [p_F_firstOne_L19]
    refine pk_le 16 w (fun cc => ?_) (fun cc => ?_)
    · obtain rfl : w = 16 := by omega
      exact hY hi
    · have hs'' := hs' cc
      obtain ⟨n1, n2, n3⟩ := nxw_s kept hk w cc hs''
      refine ⟨_, h.la (by decide) (42 + p) (by omega) cc, fun e => nm_e ?_, fun e => hX w cc hs'' hi (fun q => e ((lg_cmp_eq _ _).mpr q))⟩
      rw [nxw_e kept hk w cc]
      refine ih (nxw kept w) (by omega) n2 n3 (fun y hy hyk => ?_)
      have := nxw_g kept hk w cc hs'' y hy hyk
      by_cases c : y = w
      · subst c; exact (lg_cmp_eq _ _).mp e
      · exact hi y (by omega) hyk
theorem q_F_firstOne (h : VC 69 ad S I ln L E z u) (l6 : ln 6 = 24) (ft : FK F S I L) {p : Nat} (hp : p < 24) {K : Int32 → PS → Prop} (hK : K (lstU (F p) 1024 0) u) : p_F_firstOne (ad 1) (nI p) u K := by
  have fp := ft.1 p hp
  have hk : I 6 p / 64 < 16 := d64_16 fp.1
  have and2 : ∀ w : Nat, (w &&& I 6 p / 64) &&& I 6 p / 64 = w &&& I 6 p / 64 := fun w => by rw [Nat.and_assoc, Nat.and_self]
  unfold p_F_firstOne
  refine ⟨_, h.fF (by decide) rfl, _, h.ra (by decide) hp, h.obF (by decide), q_F_kept h l6 hp fp.1 ?_⟩
  unfold p_F_leftOut
  refine ⟨17, q_F_first_L h hp hk (X := fun (y4_10 : Int32) (u_11 : PS) => (p_F_firstOne_J35 K (ad (42 + p)) y4_10 u_11)) (Y := fun (u_15 : PS) => (K (-1 : Int32) u_15)) (fun w hw hs hz hne => ?_) (fun hz => ?_) 17 0 (by omega) (by omega) (fun _ => Nat.zero_and _) (fun y hy => absurd hy (by omega))⟩
  · have pos : 0 < n64 (L (42 + p) w) := Nat.pos_of_ne_zero (fun q => hne (w_ext (fun i _ => by rw [← n64_tb, q, Nat.zero_testBit, wz_0])))
    obtain ⟨t, ht⟩ := LB.ex _ pos
    have t64 : t < 64 := ht.lt (n64_lt _)
    have a1 := ht.at
    rw [n64_tb] at a1
    have a0 : ∀ i : Nat, i < t → WB (L (42 + p) w) i = false := fun i hi => by rw [← n64_tb]; exact ht.lo hi
    have e : lstU (F p) 1024 0 = nI (64 * w + t) := by
      refine lst_some ?_ 1024 0 (by omega) (by omega) (fun i _ hi => ?_)
      · rw [← fp.w hw t64, hs]; exact a1
      · have hw' : i / 64 < 16 := by omega
        have hb' : i % 64 < 64 := by omega
        have ei : 64 * (i / 64) + i % 64 = i := by omega
        have := fp.w hw' hb'
        rw [ei] at this
        rw [← this]
        have le : (i / 64 &&& I 6 p / 64) ≤ i / 64 := Nat.and_le_left
        by_cases c : (i / 64 &&& I 6 p / 64) < w
        · rw [hz _ c (and2 _), wz_0]
        · have : i / 64 = w := by omega
          rw [this, hs]
          exact a0 _ (by omega)
    unfold p_F_firstOne_J35
    refine ⟨_, h.la (by decide) (42 + p) (by omega) hw, q_ntzL t64 a1 a0 ?_⟩
    rw [show (6 : Int32) = nI 6 from rfl, nI_shl (by decide), nI_add, show w * 2 ^ 6 + t = 64 * w + t by omega, ← e]
    exact hK
  · have e : lstU (F p) 1024 0 = -1 := lst_none 1024 0 (fun i _ hi => by
      have hw' : i / 64 < 16 := by omega
      have ei : 64 * (i / 64) + i % 64 = i := by omega
      have := fp.w hw' (show i % 64 < 64 by omega)
      rw [ei] at this
      rw [← this, hz _ (and_lt16 hw') (and2 _), wz_0])
    rw [← e]
    exact hK
theorem FK.sup (ft : FK F S I L) {p : Nat} (hp : p < 24) (hs : (S 0).testBit p = true) : I 6 p = supN (F p) 10 := by
  have fp := ft.1 p hp
  refine Nat.eq_of_testBit_eq (fun i => ?_)
  rw [tb_sup]
  by_cases hi : i < 10
  · rw [decide_eq_true hi, Bool.true_and]
    have a : depT (F p) i = true ↔ dep (fnOf (F p)) i := by
      rw [depT_iff, dep_setb hi]
      constructor
      · rintro ⟨v, hv, hne⟩
        refine ⟨v, hv, fun q => hne ?_⟩
        cases c : v.testBit i
        · have e : setb v i false = v := by unfold setb; rw [if_pos c]
          rw [e] at q; exact q
        · have e : setb v i true = v := by unfold setb; rw [if_pos c]
          rw [e] at q; exact q.symm
      · rintro ⟨v, hv, hne⟩
        refine ⟨v, hv, fun q => hne ?_⟩
        cases c : v.testBit i
        · have e : setb v i false = v := by unfold setb; rw [if_pos c]
          rw [c] at q; rw [e]; exact q
        · have e : setb v i true = v := by unfold setb; rw [if_pos c]
          rw [c] at q; rw [e]; exact q.symm
    cases c : (I 6 p).testBit i
    · cases d : depT (F p) i
      · rfl
      · exact absurd (a.mp d) (fp.2.1.nd hi c)
    · exact (a.mpr ((ft.2.2.2 p hp hs).1 i hi c)).symm
  · rw [decide_eq_false hi, Bool.false_and]
    exact Nat.testBit_lt_two_pow (Nat.lt_of_lt_of_le fp.1 (Nat.pow_le_pow_right (n := 2) (i := 10) (by omega) (by omega)))
end FU8
