/-! Functions: word(), bit(), areSame(), usedInputs() -/
theorem bt_32 (x : Int64) {i : Nat} (hi : i < 32) : bt x.toInt32 i = WB x i := by
  show (x.toBitVec.signExtend 32).getLsbD i = x.toBitVec.getLsbD i
  rw [BitVec.getLsbD_signExtend, decide_eq_true hi, Bool.true_and, if_pos (by omega)]
theorem b_and1 (x : Int32) : x &&& (1 : Int32) = bI (bt x 0) := by
  refine b_ext (fun i hi => ?_)
  rw [b_and, show (1 : Int32) = nI 1 from rfl, bt_nI _ hi]
  by_cases c : i = 0
  · subst c
    cases bt x 0 <;> rfl
  · have e1 : (1 : Nat).testBit i = false := by rw [show (1 : Nat) = 2 ^ 0 from rfl, Nat.testBit_two_pow, decide_eq_false (fun e => c e.symm)]
    rw [e1, Bool.and_false]
    cases bt x 0
    · exact (b_0 i).symm
    · show false = bt (nI 1) i
      rw [bt_nI _ hi, e1]
theorem w_su2 : ∀ n : Nat, n < 1024 → (((nI n).toInt64.toUInt64 &&& Int64.toUInt64 63).toBitVec % 64).toNat = n % 64 := by decide +kernel
theorem w_bit (x : Int64) {v : Nat} (hv : v < 1024) : (((x.toUInt64 >>> ((nI v).toInt64.toUInt64 &&& Int64.toUInt64 63)).toInt64).toInt32) &&& (1 : Int32) = bI (WB x (v % 64)) := by
  rw [b_and1, bt_32 _ (by decide)]
  have e : WB ((x.toUInt64 >>> ((nI v).toInt64.toUInt64 &&& Int64.toUInt64 63)).toInt64) 0 = WB x (v % 64) := by
    show (x.toUInt64 >>> ((nI v).toInt64.toUInt64 &&& Int64.toUInt64 63)).toBitVec.getLsbD 0 = x.toUInt64.toBitVec.getLsbD (v % 64)
    rw [UInt64.toBitVec_shiftRight]
    show (x.toUInt64.toBitVec >>> (((nI v).toInt64.toUInt64 &&& Int64.toUInt64 63).toBitVec % 64).toNat).getLsbD 0 = _
    rw [w_su2 v hv, BitVec.getLsbD_ushiftRight, Nat.add_zero]
  rw [e]
def mskN (v m : Nat) : Nat → Nat
  | 0 => v
  | n + 1 => if m.testBit n then mskN v m n else setb (mskN v m n) n false
theorem tb_msk (v m n i : Nat) : (mskN v m n).testBit i = if i < n then (v.testBit i && m.testBit i) else v.testBit i := by
  induction n with
  | zero => rfl
  | succ n ih =>
    rw [mskN]
    cases c : m.testBit n
    · rw [if_neg (by decide), tb_setb, ih]
      by_cases e : i = n
      · subst e; rw [if_pos rfl, if_pos (by omega), c, Bool.and_false]
      · rw [if_neg e]
        by_cases d : i < n
        · rw [if_pos d, if_pos (by omega)]
        · rw [if_neg d, if_neg (by omega)]
    · rw [if_pos rfl, ih]
      by_cases e : i = n
      · subst e; rw [if_neg (by omega), if_pos (by omega), c, Bool.and_true]
      · by_cases d : i < n
        · rw [if_pos d, if_pos (by omega)]
        · rw [if_neg d, if_neg (by omega)]
theorem nd_eq {f : Nat → Bool} {k : Nat} (hk : k < 10) (h : ¬ dep (fnOf f) k) {x : Nat} (hx : x < 1024) (c : Bool) : f (setb x k c) = f x := by
  have h2 : f (setb x k false) = f (setb x k true) := Classical.byContradiction (fun q => h ((dep_setb hk).mpr ⟨x, hx, q⟩))
  have h3 : ∀ d : Bool, f (setb x k d) = f (setb x k false) := fun d => by
    cases d
    · rfl
    · exact h2.symm
  have h4 : f x = f (setb x k (x.testBit k)) := by rw [setb_self rfl]
  exact (h3 c).trans (h4.trans (h3 _)).symm
theorem NUm.of_nd {f : Nat → Bool} {m : Nat} (h : ∀ k : Nat, k < 10 → m.testBit k = false → ¬ dep (fnOf f) k) : NUm f m := fun v hv => by
  have lt : ∀ n : Nat, n ≤ 10 → mskN v m n < 1024 := fun n hn => by
    induction n with
    | zero => exact hv
    | succ n ih =>
      rw [mskN]
      split
      · exact ih (by omega)
      · exact setb_10 false (ih (by omega)) (by omega)
  have key : ∀ n : Nat, n ≤ 10 → f (mskN v m n) = f v := fun n hn => by
    induction n with
    | zero => rfl
    | succ n ih =>
      rw [mskN]
      cases c : m.testBit n
      · rw [if_neg (by decide), nd_eq (by omega) (h n (by omega) c) (lt n (by omega))]
        exact ih (by omega)
      · rw [if_pos rfl]; exact ih (by omega)
  have e : mskN v m 10 = v &&& m := by
    refine Nat.eq_of_testBit_eq (fun i => ?_)
    rw [tb_msk, Nat.testBit_and]
    by_cases c : i < 10
    · rw [if_pos c]
    · have : v.testBit i = false := Nat.testBit_lt_two_pow (Nat.lt_of_lt_of_le hv (Nat.pow_le_pow_right (n := 2) (by decide) (show 10 ≤ i by omega)))
      rw [if_neg c, this]; rfl
  rw [← e, key 10 (Nat.le_refl _)]
theorem upF_id (F : Nat → Nat → Bool) (p : Nat) : upF F p (F p) = F := by
  funext q v
  unfold upF
  by_cases c : q = p
  · rw [if_pos c, c]
  · rw [if_neg c]
theorem lfO_or : ∀ kept : Nat, kept < 16 → ∀ j : Nat, j < 4 → lfO kept ||| nI (2 ^ j) = lfO (setb kept j false) := by decide +kernel
section FU6
variable {L : Nat → Nat → Int64} {E : (Nat → Prop) × (Nat → Option PE)} {ad S : Nat → Nat} {I : Nat → Nat → Nat} {ln : Nat → Nat} {z : Nat × Nat} {F : Nat → Nat → Bool} {u : PS}
theorem q_F_word (h : VC 69 ad S I ln L E z u) (l6 : ln 6 = 24) {p w : Nat} (hp : p < 24) (hm : I 6 p < 1024) (hw : w < 16) {K : Int64 → PS → Prop} (hK : K (L (42 + p) (w &&& I 6 p / 64)) u) : p_F_word (ad 1) (nI p) (nI w) u K := by
  unfold p_F_word
  refine ⟨_, h.fF (by decide) rfl, _, h.ra (by decide) hp, h.obF (by decide), q_F_kept h l6 hp hm ?_⟩
  rw [nx_and]
  exact ⟨_, h.la (by decide) (42 + p) (by omega) (and_lt16 hw), hK⟩
theorem q_F_bit (h : VC 69 ad S I ln L E z u) (l6 : ln 6 = 24) {p v : Nat} (hp : p < 24) (fp : FP (F p) (I 6 p) (L (42 + p))) (hv : v < 1024) {K : Int32 → PS → Prop} (hK : K (bI (F p v)) u) : p_F_bit (ad 1) (nI p) (nI v) u K := by
  unfold p_F_bit
  refine ⟨_, h.fF (by decide) rfl, _, h.ra (by decide) hp, h.obF (by decide), q_F_kept h l6 hp fp.1 ?_⟩
  rw [show (6 : Int32) = nI 6 from rfl, nI_shr (by omega) (by decide), nx_and]
  refine ⟨_, h.la (by decide) (42 + p) (by omega) (and_lt16 (d64_16 hv)), ?_⟩
  rw [w_bit _ hv, show v / 2 ^ 6 = v / 64 from rfl, ← fp.2.2 v hv]
  exact hK
theorem q_F_areSame_L (h : VC 69 ad S I ln L E z u) {p q kept : Nat} (hp : p < 24) (hq : q < 24) (hk : kept < 16) {X Y : PS → Prop} (hX : ∀ w : Nat, w < 16 → L (42 + p) (w &&& I 6 p / 64) ≠ L (42 + q) (w &&& I 6 q / 64) → X u) (hY : (∀ w : Nat, w < 16 → w &&& kept = w → L (42 + p) (w &&& I 6 p / 64) = L (42 + q) (w &&& I 6 q / 64)) → Y u) : ∀ d w : Nat, 16 < w + d → w ≤ 16 → (w < 16 → w &&& kept = w) → (∀ y : Nat, y < w → y &&& kept = y → L (42 + p) (y &&& I 6 p / 64) = L (42 + q) (y &&& I 6 q / 64)) → p_F_areSame_L42 (ad (42 + p)) (ad (42 + q)) (nI (I 6 p / 64)) (nI (I 6 q / 64)) (lfO kept) X Y d (nI w) u := by
  intro d
  induction d with
  | zero => intro w h1 h2; exact absurd h1 (by omega)
  | succ d ih =>
    intro w h1 h2 hs' hi
    rw [p_F_areSame_L42]
    refine pk_le 16 w (fun cc => ?_) (fun cc => ?_)
    · obtain rfl : w = 16 := by omega
      exact hY hi
    · have hs'' := hs' cc
      obtain ⟨n1, n2, n3⟩ := nxw_s kept hk w cc hs''
      rw [nx_and, nx_and]
      refine ⟨_, h.la (by decide) (42 + p) (by omega) (and_lt16 cc), _, h.la (by decide) (42 + q) (by omega) (and_lt16 cc), fun e => nm_e ?_, fun e => hX w cc (fun q => e ((lg_cmp_eq _ _).mpr q))⟩
      rw [nxw_e kept hk w cc]
      refine ih (nxw kept w) (by omega) n2 n3 (fun y hy hyk => ?_)
      have := nxw_g kept hk w cc hs'' y hy hyk
      by_cases c : y = w
      · subst c; exact (lg_cmp_eq _ _).mp e
      · exact hi y (by omega) hyk
theorem q_F_areSame (h : VC 69 ad S I ln L E z u) (l6 : ln 6 = 24) (ft : FK F S I L) {p q : Nat} (hp : p < 24) (hq : q < 24) {K : Int32 → PS → Prop} (hK : K (bI (sameT (F p) (F q) 1024)) u) : p_F_areSame (ad 1) (nI p) (nI q) u K := by
  have fp := ft.1 p hp
  have fq := ft.1 q hq
  unfold p_F_areSame
  refine ⟨_, h.fF (by decide) rfl, _, h.ra (by decide) hp, _, h.fF (by decide) rfl, _, h.ra (by decide) hq, h.obF (by decide), q_F_kept h l6 hp fp.1 ⟨h.obF (by decide), q_F_kept h l6 hq fq.1 ?_⟩⟩
  unfold p_F_leftOut
  rw [nx_or]
  refine ⟨17, q_F_areSame_L h hp hq (kept := I 6 p / 64 ||| I 6 q / 64) (or_lt16 (d64_16 fp.1) (d64_16 fq.1)) (fun w hw hne => ⟨Or.inl rfl, ?_⟩) (fun he => ⟨Or.inr rfl, ?_⟩) 17 0 (by omega) (by omega) (fun _ => Nat.zero_and _) (fun y hy => absurd hy (by omega))⟩
  · have e : sameT (F p) (F q) 1024 = false := by
      cases c : sameT (F p) (F q) 1024
      · rfl
      · rw [sameT_iff] at c
        exact absurd (w_ext (fun b hb => by rw [fp.w hw hb, fq.w hw hb]; exact c _ (wb_lt hw hb))) hne
    rw [e] at hK
    exact hK
  · have e : sameT (F p) (F q) 1024 = true := by
      rw [sameT_iff]
      intro v hv
      have hw : v / 64 &&& (I 6 p / 64 ||| I 6 q / 64) < 16 := and_lt16 (by omega)
      have := he _ hw (by rw [Nat.and_assoc, Nat.and_self])
      have e1 : (v / 64 &&& (I 6 p / 64 ||| I 6 q / 64)) &&& I 6 p / 64 = v / 64 &&& I 6 p / 64 := by
        refine Nat.eq_of_testBit_eq (fun i => ?_)
        rw [Nat.testBit_and, Nat.testBit_and, Nat.testBit_and, Nat.testBit_or]
        cases (I 6 p / 64).testBit i <;> simp
      have e2 : (v / 64 &&& (I 6 p / 64 ||| I 6 q / 64)) &&& I 6 q / 64 = v / 64 &&& I 6 q / 64 := by
        refine Nat.eq_of_testBit_eq (fun i => ?_)
        rw [Nat.testBit_and, Nat.testBit_and, Nat.testBit_and, Nat.testBit_or]
        cases (I 6 q / 64).testBit i <;> simp
      rw [e1, e2] at this
      rw [fp.2.2 v hv, fq.2.2 v hv, this]
    rw [e] at hK
    exact hK
theorem q_F_dw_L (h : VC 69 ad S I ln L E z u) {p k kept : Nat} (hp : p < 24) (hk6 : k < 6) (hk : kept < 16) {X Y : PS → Prop} (hX : ∀ w b : Nat, w < 16 → w &&& kept = w → b < 64 → WB (L (42 + p) w) b ≠ WB (L (42 + p) w) (setb b k true) → X u) (hY : (∀ w : Nat, w < 16 → w &&& kept = w → ∀ b : Nat, b < 64 → b.testBit k = false → WB (L (42 + p) w) b = WB (L (42 + p) w) (setb b k true)) → Y u) : ∀ d w : Nat, 16 < w + d → w ≤ 16 → (w < 16 → w &&& kept = w) → (∀ y : Nat, y < w → y &&& kept = y → ∀ b : Nat, b < 64 → b.testBit k = false → WB (L (42 + p) y) b = WB (L (42 + p) y) (setb b k true)) → p_F_dependsWithinWords_L18 (ad (42 + p)) (lfO kept) (tab_ONES k ^^^ (-1)) (nI (2 ^ k)) X Y d (nI w) u := by
  intro d
  induction d with
  | zero => intro w h1 h2; exact absurd h1 (by omega)
  | succ d ih =>
    intro w h1 h2 hs' hi
    rw [p_F_dependsWithinWords_L18]
    refine pk_le 16 w (fun cc => ?_) (fun cc => ?_)
    · obtain rfl : w = 16 := by omega
      exact hY hi
    · have hs'' := hs' cc
      obtain ⟨n1, n2, n3⟩ := nxw_s kept hk w cc hs''
      have la := h.la (by decide) (42 + p) (by omega) cc
      have vb : ∀ b : Nat, b < 64 → WB ((L (42 + p) w ^^^ (((L (42 + p) w).toUInt64 >>> ((nI (2 ^ k)).toInt64.toUInt64 &&& Int64.toUInt64 63)).toInt64)) &&& (tab_ONES k ^^^ (-1))) b = ((WB (L (42 + p) w) b ^^ WB (L (42 + p) w) (2 ^ k + b)) && !b.testBit k) := fun b hb => by
        rw [w_and, w_xor, w_ushr (pw64 k hk6), w_not _ hb, ones_tb k hk6 b hb]
      refine ⟨_, la, _, la, fun e => nm_e ?_, fun e => ?_⟩
      · rw [nxw_e kept hk w cc]
        refine ih (nxw kept w) (by omega) n2 n3 (fun y hy hyk b hb hbk => ?_)
        have := nxw_g kept hk w cc hs'' y hy hyk
        by_cases c : y = w
        · subst c
          have e1 := vb b hb
          rw [(lg_cmp_eq _ _).mp e, wz_0, hbk, ln_up k hk6 b hb hbk] at e1
          revert e1
          cases WB (L (42 + p) y) b <;> cases WB (L (42 + p) y) (setb b k true) <;> decide
        · exact hi y (by omega) hyk b hb hbk
      · refine Classical.byContradiction (fun hn => e ((lg_cmp_eq _ _).mpr (w_ext (fun b hb => ?_))))
        rw [vb b hb, wz_0]
        cases hbk : b.testBit k
        · rw [ln_up k hk6 b hb hbk]
          have : WB (L (42 + p) w) b = WB (L (42 + p) w) (setb b k true) := Classical.byContradiction (fun q => hn (hX w b cc hs'' hb q))
          rw [this]
          cases WB (L (42 + p) w) (setb b k true) <;> rfl
        · simp
theorem q_F_do_L (h : VC 69 ad S I ln L E z u) {p j kept : Nat} (hp : p < 24) (hj : j < 4) (hk : kept < 16) {X Y : PS → Prop} (hX : ∀ w : Nat, w < 16 → w &&& kept = w → L (42 + p) w ≠ L (42 + p) (w ||| 2 ^ j) → X u) (hY : (∀ w : Nat, w < 16 → w &&& kept = w → L (42 + p) w = L (42 + p) (w ||| 2 ^ j)) → Y u) : ∀ d w : Nat, 16 < w + d → w ≤ 16 → (w < 16 → w &&& kept = w) → (∀ y : Nat, y < w → y &&& kept = y → L (42 + p) y = L (42 + p) (y ||| 2 ^ j)) → p_F_dependsOnWords_L7 (ad (42 + p)) (nI (2 ^ j)) (lfO kept) X Y d (nI w) u := by
  have p16 : 2 ^ j < 2 ^ 4 := Nat.pow_lt_pow_right (by decide) hj
  intro d
  induction d with
  | zero => intro w h1 h2; exact absurd h1 (by omega)
  | succ d ih =>
    intro w h1 h2 hs' hi
    rw [p_F_dependsOnWords_L7]
    refine pk_le 16 w (fun cc => ?_) (fun cc => ?_)
    · obtain rfl : w = 16 := by omega
      exact hY hi
    · have hs'' := hs' cc
      obtain ⟨n1, n2, n3⟩ := nxw_s kept hk w cc hs''
      rw [nx_or]
      refine ⟨_, h.la (by decide) (42 + p) (by omega) cc, _, h.la (by decide) (42 + p) (by omega) (or_lt16 cc p16), fun e => nm_e ?_, fun e => hX w cc hs'' (fun q => e ((lg_cmp_eq _ _).mpr q))⟩
      rw [nxw_e kept hk w cc]
      refine ih (nxw kept w) (by omega) n2 n3 (fun y hy hyk => ?_)
      have := nxw_g kept hk w cc hs'' y hy hyk
      by_cases c : y = w
      · subst c; exact (lg_cmp_eq _ _).mp e
      · exact hi y (by omega) hyk
theorem q_F_depends (h : VC 69 ad S I ln L E z u) (l6 : ln 6 = 24) {p k : Nat} (hp : p < 24) (fp : FP (F p) (I 6 p) (L (42 + p))) (hk : k < 10) (hmk : (I 6 p).testBit k = true) {K : Int32 → PS → Prop} (h1 : dep (fnOf (F p)) k → K 1 u) (h0 : ¬ dep (fnOf (F p)) k → K 0 u) : p_F_depends (ad 1) (nI p) (nI k) u K := by
  unfold p_F_depends
  refine ⟨h.obF (by decide), q_F_kept h l6 hp fp.1 ?_⟩
  unfold p_F_leftOut
  refine pk_le 6 k (fun w6 => ?_) (fun w6 => ?_)
  · refine ⟨_, h.fF (by decide) rfl, _, h.ra (by decide) hp, ?_⟩
    have hmk' : (I 6 p / 64).testBit (k - 6) = true := by rw [tb_d64, show 6 + (k - 6) = k by omega]; exact hmk
    have s16 : setb (I 6 p / 64) (k - 6) false < 16 := setb_lt (n := 4) false (d64_16 fp.1) (by omega)
    have p16 : 2 ^ (k - 6) < 2 ^ 4 := Nat.pow_lt_pow_right (by decide) (by omega)
    have sub : ∀ w : Nat, w &&& setb (I 6 p / 64) (k - 6) false = w → w &&& I 6 p / 64 = w ∧ w.testBit (k - 6) = false ∧ (w ||| 2 ^ (k - 6)) = setb w (k - 6) true ∧ setb w (k - 6) true &&& I 6 p / 64 = setb w (k - 6) true := fun w hw => by
      have b0 : w.testBit (k - 6) = false := tb_sub hw (by rw [tb_setb, if_pos rfl])
      have bs : ∀ i : Nat, w.testBit i = true → (I 6 p / 64).testBit i = true := fun i hi => by
        have := and_sub_lt hw i hi
        rw [tb_setb] at this
        by_cases e : i = k - 6
        · rw [if_pos e] at this; exact absurd this (by decide)
        · rw [if_neg e] at this; exact this
      refine ⟨Nat.eq_of_testBit_eq (fun i => ?_), b0, Nat.eq_of_testBit_eq (fun i => ?_), Nat.eq_of_testBit_eq (fun i => ?_)⟩
      · rw [Nat.testBit_and]
        cases c : w.testBit i
        · rfl
        · rw [bs i c]; rfl
      · rw [Nat.testBit_or, tb_setb, Nat.testBit_two_pow]
        by_cases e : i = k - 6
        · rw [if_pos e, decide_eq_true e.symm, Bool.or_true]
        · rw [if_neg e, decide_eq_false (fun q => e q.symm), Bool.or_false]
      · rw [Nat.testBit_and, tb_setb]
        by_cases e : i = k - 6
        · rw [if_pos e, e, hmk']; rfl
        · rw [if_neg e]
          cases c : w.testBit i
          · rfl
          · rw [bs i c]; rfl
    unfold p_F_dependsOnWords
    refine nm_e ?_
    rw [show (6 : Int32) = nI 6 from rfl, pk_sub w6, nI_pw (by omega), show (15 : Int32) &&& (nI (I 6 p / 64) ^^^ (-1 : Int32)) = lfO (I 6 p / 64) from rfl, lfO_or _ (d64_16 fp.1) _ (by omega)]
    refine ⟨17, q_F_do_L h hp (by omega) s16 (fun w hw hwk hne => ⟨Or.inr rfl, Or.inr rfl, h1 ?_⟩) (fun he => ⟨Or.inl rfl, Or.inl rfl, h0 ?_⟩) 17 0 (by omega) (by omega) (fun _ => Nat.zero_and _) (fun y hy => absurd hy (by omega))⟩
    · obtain ⟨a1, a2, a3, a4⟩ := sub w hwk
      refine Classical.byContradiction (fun hn => hne (w_ext (fun b hb => ?_)))
      have l2 : setb w (k - 6) true < 16 := setb_lt (n := 4) true hw (by omega)
      rw [a3, fp.wk hw a1 hb, fp.wk l2 a4 hb, ← wb_set1 true hb w6]
      exact (nd_eq hk hn (wb_lt hw hb) true).symm
    · rw [dep_setb hk]
      rintro ⟨v, hv, hx⟩
      have hb : v % 64 < 64 := by omega
      have hw : v / 64 &&& setb (I 6 p / 64) (k - 6) false < 16 := and_lt16 (by omega)
      have hwk : (v / 64 &&& setb (I 6 p / 64) (k - 6) false) &&& setb (I 6 p / 64) (k - 6) false = v / 64 &&& setb (I 6 p / 64) (k - 6) false := by rw [Nat.and_assoc, Nat.and_self]
      obtain ⟨a1, a2, a3, a4⟩ := sub _ hwk
      have l2 : setb (v / 64 &&& setb (I 6 p / 64) (k - 6) false) (k - 6) true < 16 := setb_lt (n := 4) true hw (by omega)
      have e := he _ hw hwk
      rw [a3] at e
      have e1 := fp.wk hw a1 hb
      have e2 := fp.wk l2 a4 hb
      rw [e, e2] at e1
      have tb : ∀ c : Bool, F p (setb v k c) = F p (64 * setb (v / 64 &&& setb (I 6 p / 64) (k - 6) false) (k - 6) c + v % 64) := fun c => by
        refine fp.2.1.eq (setb_10 c hv hk) (wb_lt (setb_lt (n := 4) c hw (by omega)) hb) (fun i hi => ?_)
        rw [tb_wb _ hb, tb_setb, tb_setb, tb_m64]
        by_cases c1 : i < 6
        · rw [if_neg (by omega), if_pos c1, decide_eq_true c1, Bool.true_and]
        · rw [if_neg c1]
          by_cases c2 : i = k
          · rw [if_pos c2, if_pos (by omega)]
          · rw [if_neg c2, if_neg (by omega), Nat.testBit_and, tb_setb, if_neg (by omega), tb_d64, tb_d64, show 6 + (i - 6) = i by omega, hi, Bool.and_true]
      refine hx ?_
      rw [tb false, tb true, setb_self a2]
      exact e1.symm
  · refine ⟨_, h.fF (by decide) rfl, _, h.ra (by decide) hp, ?_⟩
    unfold p_F_dependsWithinWords
    refine ⟨vp_in_nI w6 (by decide), nm_e (nm_e ?_)⟩
    rw [nI_clamp (by omega), nI_pw (by omega)]
    refine ⟨17, q_F_dw_L h hp w6 (kept := I 6 p / 64) (d64_16 fp.1) (fun w b hw hwk hb hne => ⟨Or.inr rfl, Or.inr rfl, h1 ?_⟩) (fun he => ⟨Or.inl rfl, Or.inl rfl, h0 ?_⟩) 17 0 (by omega) (by omega) (fun _ => Nat.zero_and _) (fun y hy => absurd hy (by omega))⟩
    · refine Classical.byContradiction (fun hn => hne ?_)
      rw [fp.wk hw hwk hb, fp.wk hw hwk (setb_6 true hb w6), ← wb_set0 true hb w6]
      exact (nd_eq hk hn (wb_lt hw hb) true).symm
    · rw [dep_setb hk]
      rintro ⟨v, hv, hx⟩
      have hb : v % 64 < 64 := by omega
      have hw : v / 64 < 16 := by omega
      have ev : v = 64 * (v / 64) + v % 64 := by omega
      refine hx ?_
      rw [ev, wb_set0 false hb w6, wb_set0 true hb w6, ← fp.w hw (setb_6 false hb w6), ← fp.w hw (setb_6 true hb w6)]
      rw [he _ (and_lt16 hw) (by rw [Nat.and_assoc, Nat.and_self]) _ (setb_6 false hb w6) (by rw [tb_setb, if_pos rfl]), setb_setb]
/-- what is used, as it is known for sure then -/
theorem q_F_usedInputs (h : VC 69 ad S I ln L E z u) (l6 : ln 6 = 24) (ft : FK F S I L) {p : Nat} (hp : p < 24) {K : Int32 → PS → Prop} (hK : ∀ (u' : PS) (S' : Nat → Nat) (I' : Nat → Nat → Nat), VC 69 ad S' I' ln L E z u' → FK F S' I' L → FRF p ad S I ad S' I' → (S' 0).testBit p = true → K (nI (I' 6 p)) u') : p_F_usedInputs (ad 1) (nI p) u K := by
  have fp := ft.1 p hp
  have m10 := fp.1
  unfold p_F_usedInputs
  refine ⟨_, h.fF (by decide) rfl, ?_⟩
  rw [tb_nI (by have := ft.2.1; omega) (by omega)]
  have r6 : ∀ {S : Nat → Nat} {I : Nat → Nat → Nat} {u : PS}, VC 69 ad S I ln L E z u → x_ia u (ad 6) (nI p) (nI (I 6 p)) := fun h => h.ia 6 (by decide) (ii (by decide)) (j := p) (by omega) (by omega)
  refine ⟨fun w => ?_, fun w => ?_⟩
  · unfold p_F_usedInputs_J64
    have hs : (S 0).testBit p = true := by
      cases e : (S 0).testBit p
      · rw [e] at w; exact absurd rfl w
      · rfl
    exact ⟨_, h.fF (by decide) rfl, _, r6 h, hK u S I h ft ⟨fun _ _ => rfl, fun _ _ => rfl, fun _ _ => rfl, fun _ _ => rfl⟩ hs⟩
  · refine ⟨_, h.fF (by decide) rfl, _, r6 h, I 6 p + 1, ?_⟩
    have fin : ∀ us : Nat, us < 1024 → (∀ i : Nat, i < 10 → (us.testBit i = true ↔ (I 6 p).testBit i = true ∧ dep (fnOf (F p)) i)) → p_F_usedInputs_J58 K (ad 1) (nI p) (nI us) u := fun us hu hb => by
      have nu : NUm (F p) us := NUm.of_nd (fun k hk hf hd => by
        cases e : (I 6 p).testBit k
        · exact fp.2.1.nd hk e hd
        · have := (hb k hk).mpr ⟨e, hd⟩
          rw [hf] at this; exact absurd this (by decide))
      have fp' : FP (F p) us (L (42 + p)) := FP.mk hu nu (fun y hy hyk b hb' => fp.wk hy (Nat.eq_of_testBit_eq (fun i => by
        rw [Nat.testBit_and]
        cases e : y.testBit i
        · rfl
        · have := and_sub_lt hyk i e
          rw [tb_d64] at this
          have i10 : 6 + i < 10 := Nat.lt_of_not_le (fun q => by
            have : us.testBit (6 + i) = false := Nat.testBit_lt_two_pow (Nat.lt_of_lt_of_le hu (Nat.pow_le_pow_right (n := 2) (by decide) q))
            simp_all)
          rw [tb_d64, ((hb _ i10).mp this).1]; rfl)) hb')
      unfold p_F_usedInputs_J58
      refine ⟨h.obF (by decide), q_F_beSure h l6 ft.2.1 ft.2.2.1 hp hu (fun u1 h1 => ?_)⟩
      unfold p_F_usedInputs_J64
      refine ⟨_, h1.fF (by decide) rfl, _, r6 h1, ?_⟩
      have fk := ft.sure (L' := L) hp fp' (fun k hk hb' => ((hb k hk).mp hb').2) rfl (fun _ _ _ => rfl)
      rw [upF_id] at fk
      exact hK u1 _ _ h1 fk FRF.sr (by rw [up_ne _ _ (by decide), up_eq, tb_setb, if_pos rfl])
    have loop : ∀ (n rest us : Nat), rest < n → rest < 1024 → us < 1024 → (∀ i : Nat, rest.testBit i = true → (I 6 p).testBit i = true) → (∀ i : Nat, i < 10 → (us.testBit i = true ↔ (I 6 p).testBit i = true ∧ (rest.testBit i = true ∨ dep (fnOf (F p)) i))) → p_F_usedInputs_L20 (ad 1) (nI p) (fun (y2_13 : Int32) (u_14 : PS) => (p_F_usedInputs_J58 K (ad 1) (nI p) y2_13 u_14)) n (nI us) (nI rest) u := by
      intro n
      induction n with
      | zero => intro rest us h; exact absurd h (by omega)
      | succ n ih =>
        intro rest us hn hr hu hsub hi
        rw [p_F_usedInputs_L20]
        refine ⟨fun w => ?_, fun w => ?_⟩
        · have x0 : rest = 0 := (nI_0I (by omega)).mp w
          subst x0
          refine fin us hu (fun i h10 => ?_)
          rw [hi i h10, Nat.zero_testBit]
          exact ⟨fun ⟨a, b⟩ => ⟨a, b.resolve_left (by decide)⟩, fun ⟨a, b⟩ => ⟨a, Or.inr b⟩⟩
        · have x0 : rest ≠ 0 := fun q => w (by rw [q]; rfl)
          obtain ⟨t, ht⟩ := LB.ex rest (by omega)
          have t10 : t < 10 := ht.lt (n := 10) hr
          have hl := setb_drop_lt ht
          have mt := hsub t ht.at
          have sub' : ∀ i : Nat, (setb rest t false).testBit i = true → (I 6 p).testBit i = true := fun i hb => by
            rw [tb_setb] at hb
            by_cases e : i = t
            · rw [if_pos e] at hb; exact absurd hb (by decide)
            · rw [if_neg e] at hb; exact hsub i hb
          refine q_ntz ht (by omega) ⟨h.obF (by decide), q_F_depends h l6 hp fp t10 mt (fun hd => ⟨fun _ => ?_, fun e => absurd e (by decide)⟩) (fun hd => ⟨fun e => absurd rfl e, fun _ => nm_e ?_⟩)⟩
          · unfold p_F_usedInputs_J49
            refine nm_e ?_
            rw [nI_drop ht]
            refine ih (setb rest t false) us (by omega) (by omega) hu sub' (fun i h10 => ?_)
            rw [hi i h10, tb_setb]
            by_cases e : i = t
            · subst e
              rw [if_pos rfl]
              exact ⟨fun ⟨a, _⟩ => ⟨a, Or.inr hd⟩, fun ⟨a, _⟩ => ⟨a, Or.inr hd⟩⟩
            · rw [if_neg e]
          · unfold p_F_usedInputs_J49
            refine nm_e ?_
            rw [nI_drop ht, nI_set0 (by omega) (by omega)]
            refine ih (setb rest t false) (setb us t false) (by omega) (by omega) (setb_10 false hu t10) sub' (fun i h10 => ?_)
            rw [tb_setb, tb_setb]
            by_cases e : i = t
            · subst e
              rw [if_pos rfl, if_pos rfl]
              exact ⟨fun q => absurd q (by decide), fun ⟨_, q⟩ => q.elim (fun q => absurd q (by decide)) (fun q => absurd q hd)⟩
            · rw [if_neg e, if_neg e]
              exact hi i h10
    exact loop (I 6 p + 1) (I 6 p) (I 6 p) (by omega) m10 m10 (fun _ hb => hb) (fun i _ => ⟨fun a => ⟨a, Or.inl a⟩, fun a => a.1⟩)
end FU6
