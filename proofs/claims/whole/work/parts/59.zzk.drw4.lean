/-! Drawing: ofWords() -/
theorem w_four (x : Int64) {k : Nat} (hk : k < 16) : ∃ n : Nat, n < 16 ∧ (((x.toUInt64 >>> (((4 : Int32) * nI k).toInt64.toUInt64 &&& Int64.toUInt64 63)).toInt64).toInt32) &&& (15 : Int32) = nI n ∧ ∀ i : Nat, i < 4 → n.testBit i = WB x (4 * k + i) := by
  have e : (4 : Int32) * nI k = nI (4 * k) := by rw [show (4 : Int32) = nI 4 from rfl, pk_mul]
  rw [e]
  obtain ⟨y, hy⟩ : ∃ y : Int32, y = (((x.toUInt64 >>> ((nI (4 * k)).toInt64.toUInt64 &&& Int64.toUInt64 63)).toInt64).toInt32) &&& (15 : Int32) := ⟨_, rfl⟩
  rw [← hy]
  have b15 : ∀ i : Nat, i < 32 → bt (15 : Int32) i = decide (i < 4) := by decide +kernel
  have bb : ∀ i : Nat, i < 32 → bt y i = (WB x (4 * k + i) && decide (i < 4)) := fun i hi => by
    rw [hy, b_and, bt_32 _ hi, w_ushr (by omega), b15 i hi]
  have tb : ∀ i : Nat, y.toBitVec.toNat.testBit i = bt y i := fun i => BitVec.testBit_toNat _
  refine ⟨y.toBitVec.toNat, ?_, i32_n y, fun i hi => ?_⟩
  · refine Nat.lt_pow_two_of_testBit (n := 4) _ (fun i hi => ?_)
    rw [tb]
    by_cases c : i < 32
    · rw [bb i c, decide_eq_false (by omega), Bool.and_false]
    · exact BitVec.getLsbD_of_ge _ _ (by omega)
  · rw [tb, bb i (by omega), decide_eq_true hi, Bool.and_true]
section DR4
variable {L : Nat → Nat → Int64} {E : (Nat → Prop) × (Nat → Option PE)} {R : Nat × Nat} {B e : Nat} {o rt g0 : Nat → Nat} {D0 : Nat → Fn} {f : Fn} {ad S : Nat → Nat} {I : Nat → Nat → Nat} {ln : Nat → Nat} {z : Nat × Nat} {g : Nat → Nat} {D : Nat → Fn} {F : Nat → Nat → Bool}
theorem q_wds_L2 (l6 : ln 6 = 24) {p : Nat} (hp : p < 24) (hm : I 6 p < 1024) {x2 : Int32} {X : PS → Prop} (hX : ∀ (u' : PS) (r : Nat → Int64), VC 69 ad S I ln (va_up L 41 r) E z u' → (∀ y : Nat, y < 16 → r y = L (42 + p) (y &&& I 6 p / 64)) → X u') : ∀ (d w : Nat) (u : PS) (r : Nat → Int64), 16 < w + d → w ≤ 16 → VC 69 ad S I ln (va_up L 41 r) E z u → (∀ y : Nat, y < w → r y = L (42 + p) (y &&& I 6 p / 64)) → p_G_ofWords_L2 (ad 3) (nI p) x2 X d (nI w) u := by
  intro d
  induction d with
  | zero => intro w u r h1 h2; exact absurd h1 (by omega)
  | succ d ih =>
    intro w u r h1 h2 h hr
    rw [p_G_ofWords_L2]
    refine pk_le 16 w (fun cc => ?_) (fun cc => ?_)
    · exact hX u r h (fun y hy => hr y (by omega))
    · have eL : va_up L 41 r (42 + p) = L (42 + p) := up_ne _ _ (by omega)
      obtain ⟨u1, s1, k1⟩ := w_st h cc (L (42 + p) (w &&& I 6 p / 64))
      refine ⟨_, h.fG (by decide) rfl, _, h.fG (by decide) rfl, h.obF (by decide), q_F_word h l6 hp hm cc ?_⟩
      rw [eL]
      refine ⟨u1, s1, nm_e ?_⟩
      rw [show (1 : Int32) = nI 1 from rfl, nI_add]
      refine ih (w + 1) u1 _ (by omega) (by omega) k1 (fun y hy => ?_)
      by_cases c : y = w
      · subst c; rw [pk_uLs]
      · rw [pk_uLn c]; exact hr y (by omega)
theorem q_wds_L36 (l34 : ln 34 = 16) {x2 : Int32} {X : PS → Prop} (hX : ∀ (u' : PS) (I' : Nat → Nat → Nat), VC 69 ad S I' ln L E z u' → (∀ i : Nat, i ≠ 34 → I' i = I i) → (∀ y : Nat, y < 16 → I' 34 y = NON) → X u') : ∀ (d w : Nat) (u : PS) (I' : Nat → Nat → Nat), 16 < w + d → w ≤ 16 → VC 69 ad S I' ln L E z u → (∀ i : Nat, i ≠ 34 → I' i = I i) → (∀ y : Nat, y < w → I' 34 y = NON) → p_G_ofWords_L36 (ad 3) x2 X d (nI w) u := by
  intro d
  induction d with
  | zero => intro w u r h1 h2; exact absurd h1 (by omega)
  | succ d ih =>
    intro w u I' h1 h2 h fr hr
    rw [p_G_ofWords_L36]
    refine pk_le 16 w (fun cc => ?_) (fun cc => ?_)
    · exact hX u I' h fr (fun y hy => hr y (by omega))
    · obtain ⟨u1, s1, k1⟩ := h.isx 34 (by decide) (ii (by decide)) (j := w) (by omega) (by omega) NON
      rw [non_m1] at s1
      refine ⟨_, h.fG (by decide) rfl, u1, s1, nm_e ?_⟩
      rw [show (1 : Int32) = nI 1 from rfl, nI_add]
      refine ih (w + 1) u1 _ (by omega) (by omega) k1 (fun i hi => by rw [up_ne _ _ hi]; exact fr i hi) (fun y hy => ?_)
      rw [up_eq]
      by_cases c : y = w
      · subst c; rw [up_eq]
      · rw [up_ne _ _ c]; exact hr y (by omega)
theorem q_wds_L74 {r : Nat → Int64} {u : PS} (h : VC 69 ad S I ln (va_up L 41 r) E z u) {w : Nat} (hw : w < 16) {x2 x3 : Int32} {X : Int32 → PS → Prop} (hX : ∀ t : Nat, t ≤ w → (t < w → r t = r w) → X (nI t) u) : ∀ (d t : Nat), w < t + d → t ≤ w → p_G_ofWords_L74 (ad 3) x2 x3 (nI w) X d (nI t) u := by
  intro d
  induction d with
  | zero => intro t h1 h2; exact absurd h1 (by omega)
  | succ d ih =>
    intro t h1 h2
    rw [p_G_ofWords_L74]
    refine pk_le w t (fun cc => ?_) (fun cc => ?_)
    · exact hX t h2 (fun q => absurd q (by omega))
    · refine ⟨_, h.fG (by decide) rfl, _, w_ld h (show t < 16 by omega), _, h.fG (by decide) rfl, _, w_ld h hw, fun q => hX t h2 (fun _ => (lg_cmp_eq _ _).mp q), fun _ => nm_e ?_⟩
      rw [show (1 : Int32) = nI 1 from rfl, nI_add]
      exact ih (t + 1) (by omega) (by omega)
/-- the table in the order that is asked -/
theorem arr_tab {p m c : Nat} {pl s : Nat → Nat} {r : Nat → Int64} (ho : PO o) (hk : ASK o m c pl) (hs : PO s) (hsc : ∀ b : Nat, b < c → s b = o (pl b)) (hr : ∀ x : Asg, TB r (numT (fun b => x (s b)) 10) = F p (numT x 10)) {y : Nat} (hy : y < 2 ^ c) : TB r y = F p (spN (fun j => o (pl j)) y c) := by
  have lt := spN_lt (as := fun j => o (pl j)) (hk.lt ho) y c (Nat.le_refl _)
  have := hr (spN (fun j => o (pl j)) y c).testBit
  rw [num_bits lt] at this
  rw [← this]
  congr 1
  refine Nat.eq_of_testBit_eq (fun i => ?_)
  rw [tb_num]
  have c10 := hk.1
  by_cases hi : i < c
  · rw [decide_eq_true (by omega), Bool.true_and, hsc i hi]
    have a := tb_spN (as := fun j => o (pl j)) y (o (pl i)) c
    cases d : y.testBit i
    · cases d2 : (spN (fun j => o (pl j)) y c).testBit (o (pl i))
      · rfl
      · obtain ⟨j, j1, j2, j3⟩ := a.mp d2
        rw [hk.inj ho j i j1 hi j2, d] at j3
        exact absurd j3 (by decide)
    · exact (a.mpr ⟨i, hi, rfl, d⟩).symm
  · rw [Nat.testBit_lt_two_pow (Nat.lt_of_lt_of_le hy (Nat.pow_le_pow_right (by decide) (by omega)))]
    by_cases hi2 : i < 10
    · rw [decide_eq_true hi2, Bool.true_and]
      cases d2 : (spN (fun j => o (pl j)) y c).testBit (s i)
      · rfl
      · obtain ⟨j, j1, j2, j3⟩ := (tb_spN (as := fun j => o (pl j)) y (s i) c).mp d2
        have := hs.2 j i (by omega) hi2 (by rw [hsc j j1]; exact j2)
        omega
    · rw [decide_eq_false hi2, Bool.false_and]
/-- a word's parts -/
theorem PT_famw {pl : Nat → Nat} {m c : Nat} {G : Nat → Bool} (h : ASK o m c pl) (ho : PO o) (hm : m < 1024) (hG : NUm G m) (hc : 6 ≤ c) (w : Nat) : FAM o pl (fnOf G) 2 6 (fun i x => PT (fun j => o (pl j)) c (fnOf G) i (2 ^ (6 - i) * w + x)) := fun i _ h2 => by
  have fam := PT_fam (fr := 0) (to := c) h ho hm hG (Nat.le_refl _) i (by omega) (by omega)
  refine ⟨fam.1, fun x => ⟨(fam.2 _).1, ?_, (fam.2 _).2.2⟩⟩
  dsimp only
  have e : 2 * (2 ^ (6 - (i + 1)) * w + x) = 2 ^ (6 - i) * w + 2 * x := by
    rw [show 6 - i = (6 - (i + 1)) + 1 by omega, Nat.pow_succ, Nat.mul_add, ← Nat.mul_assoc, Nat.mul_comm 2 (2 ^ (6 - (i + 1)))]
  rw [(fam.2 _).2.1, e, Nat.add_assoc]
theorem q_wds_L132 (ho : PO o) {pl : Nat → Nat} {p c w s T m0 : Nat} (hk : ASK o m0 c pl) (hm : m0 < 1024) (hG : NUm (F p) m0) (hc : 6 ≤ c) {r : Nat → Int64} (hw : w < 2 ^ (c - 6)) (hr : ∀ y : Nat, y < 2 ^ c → TB r y = F p (spN (fun j => o (pl j)) y c)) (hT : T + 2 ≤ 2 ^ e) (hB : T + 3 ≤ B) (hs : s + 15 ≤ T) {x2 x3 : Int32} {X : PS → Prop} {ad0 S0 : Nat → Nat} {I0 : Nat → Nat → Nat} {ln0 : Nat → Nat} {gb : Nat → Nat} {Db : Nat → Fn} (l30 : ln0 30 = 10) (l32 : ln0 32 = 32) (l34 : ln0 34 = 16) (hA : ∀ i : Nat, i < c → I0 30 i = o (pl i))
    (hX : ∀ (u' : PS) (ad' S' : Nat → Nat) (I' : Nat → Nat → Nat) (ln' : Nat → Nat) (z' : Nat × Nat) (g' : Nat → Nat) (D' : Nat → Fn), DG (va_up L 41 r) E R B e o rt g0 D0 (fnOf (F p)) ad' S' I' ln' z' u' g' D' → RWP g' D' (I' 32) (fun y => PT (fun j => o (pl j)) c (fnOf (F p)) 2 (16 * w + y)) 0 16 → CF (o (pl 0)) (o (pl 1)) g' D' (I' 34) → POT (o (pl 0)) s g' (S' 10) (I' 34) → FW ad0 S0 I0 ln0 ad' S' I' ln' → I' 33 = I0 33 → KP gb Db g' D' → X u') :
    ∀ (d x : Nat) (u : PS) (ad' S' : Nat → Nat) (I' : Nat → Nat → Nat) (ln' : Nat → Nat) (z' : Nat × Nat) (g' : Nat → Nat) (D' : Nat → Fn), 16 < x + d → x ≤ 16 → DG (va_up L 41 r) E R B e o rt g0 D0 (fnOf (F p)) ad' S' I' ln' z' u g' D' → RWP g' D' (I' 32) (fun y => PT (fun j => o (pl j)) c (fnOf (F p)) 2 (16 * w + y)) 0 x → CF (o (pl 0)) (o (pl 1)) g' D' (I' 34) → POT (o (pl 0)) s g' (S' 10) (I' 34) → FW ad0 S0 I0 ln0 ad' S' I' ln' → I' 33 = I0 33 → KP gb Db g' D' → p_G_ofWords_L132 (ad0 3) x2 x3 (nI w) X d (nI x) u := by
  have c10 := hk.1
  have w16 : w < 16 := Nat.lt_of_lt_of_le hw (Nat.pow_le_pow_right (n := 2) (j := 4) (by decide) (by omega))
  have wc : 64 * (w + 1) ≤ 2 ^ c := by
    have e2 : 2 ^ c = 64 * 2 ^ (c - 6) := by rw [show (64 : Nat) = 2 ^ 6 from rfl, ← Nat.pow_add, show 6 + (c - 6) = c by omega]
    omega
  intro d
  induction d with
  | zero => intro x u ad' S' I' ln' z' g' D' w1 w2; exact absurd w1 (by omega)
  | succ d ih =>
    intro x u ad' S' I' ln' z' g' D' w1 w2 hg ra cfh pot fw i33 kp
    have fa := fw.2.2.2
    rw [p_G_ofWords_L132]
    refine pk_le 16 x (fun cc => ?_) (fun cc => ?_)
    · obtain rfl : x = 16 := by omega
      exact hX u ad' S' I' ln' z' g' D' hg ra cfh pot fw i33 kp
    · have hv := hg.1
      rw [← (fa 3 (by decide)).1]
      refine ⟨_, hv.fG (by decide) rfl, _, hv.fG (by decide) rfl, _, w_ld hv w16, hv.obG (by decide), ?_⟩
      obtain ⟨n, n16, en, nb⟩ := w_four (r w) cc
      rw [en]
      have bits : ∀ i : Nat, i < 4 → n.testBit i = F p (spN (fun j => o (pl j)) (4 * (16 * w + x) + i) c) := fun i hi => by
        rw [nb i hi, ← hr _ (by omega), show 4 * (16 * w + x) + i = 64 * w + (4 * x + i) by omega, TB_wb _ _ (by omega)]
      have p4 : PT (fun j => o (pl j)) c (fnOf (F p)) 2 (16 * w + x) = h4x (o (pl 0)) (o (pl 1)) n := by
        rw [PT_4 hk ho hm hG (by omega), ← bits 1 (by decide), ← bits 2 (by decide), ← bits 3 (by decide)]
        have := bits 0 (by decide)
        rw [Nat.add_zero] at this
        rw [← this]
        rfl
      have q0 : PT (fun j => o (pl j)) c (fnOf (F p)) (0 + 1) (2 * (16 * w + x)) = iteF (o (pl 0)) (fun _ => n.testBit 0) (fun _ => n.testBit 1) := by
        rw [PT_ite (by omega), PT_0 hk ho hm hG, PT_0 hk ho hm hG, bits 0 (by decide), bits 1 (by decide), show 2 * (2 * (16 * w + x)) = 4 * (16 * w + x) by omega]
        rfl
      have q1 : PT (fun j => o (pl j)) c (fnOf (F p)) (0 + 1) (2 * (16 * w + x) + 1) = iteF (o (pl 0)) (fun _ => n.testBit 2) (fun _ => n.testBit 3) := by
        rw [PT_ite (by omega), PT_0 hk ho hm hG, PT_0 hk ho hm hG, bits 2 (by decide), bits 3 (by decide), show 2 * (2 * (16 * w + x) + 1) = 4 * (16 * w + x) + 2 by omega]
      have fam := PT_fam (fr := 0) (to := c) hk ho hm hG (Nat.le_refl _)
      have f0 := (fam 0 (by omega) (by omega)).2
      have f1 := (fam 1 (by omega) (by omega)).2
      have i30 : I' 30 = I0 30 := fw.1 30 (by decide) (by decide)
      have l30' : ln' 30 = 10 := by rw [(fa 30 (by decide)).2]; exact l30
      have l34' : ln' 34 = 16 := by rw [(fa 34 (by decide)).2]; exact l34
      refine q_G_ofFour (pl := pl) (s := s) (T := T) hg ho (hk.2.1 0 (by omega)).1 (hk.2.1 1 (by omega)).1 l30' l34' (by rw [i30]; exact hA 0 (by omega)) (by rw [i30]; exact hA 1 (by omega)) n16 hT hB hs (by rw [← q0]; exact (f0 _).2.2) (by rw [← q1]; exact (f0 _).2.2) (by rw [← p4]; exact (f1 _).2.2) (by rw [← q0]; exact (f1 _).1) (by rw [← q1]; exact (f1 _).1) cfh pot (fun u1 m ad1 S1 I1 ln1 z1 g1 D1 v1 v2 v3 v4 v5 v6 v7 => ?_)
      have fb := v6.2.2.2
      have l32' : ln1 32 = 32 := by rw [(fb 32 (by decide)).2, (fa 32 (by decide)).2]; exact l32
      obtain ⟨u2, s2, k2⟩ := v1.1.isx 32 (by decide) (ii (by decide)) (j := x) (by omega) (by omega) m
      rw [← (fb 32 (by decide)).1]
      refine ⟨u2, s2, nm_e ?_⟩
      rw [show (1 : Int32) = nI 1 from rfl, nI_add, (fa 3 (by decide)).1]
      have i32 : I1 32 = I' 32 := v6.1 32 (by decide) (by decide)
      refine ih (x + 1) u2 ad1 S1 _ ln1 z1 g1 D1 (by omega) (by omega) (v1.put k2 (fun i q1 q2 => up_ne _ _ (by omega))) (fun y y1 y2 => ?_) (by rw [up_ne _ _ (by decide)]; exact v4) (by rw [up_ne _ _ (by decide)]; exact v5) (fw.tr ((FW.of v6 (by decide)).tr (FW.put (fun i hi => up_ne _ _ (by omega))))) (by rw [up_ne _ _ (by decide), v6.1 33 (by decide) (by decide)]; exact i33) (kp.tr v7)
      rw [up_eq]
      by_cases cy : y = x
      · subst cy; rw [up_eq]; exact ⟨v2, v3.trans p4.symm⟩
      · rw [up_ne _ _ cy, i32]; exact (ra.kp v7) y y1 (by omega)
end DR4
