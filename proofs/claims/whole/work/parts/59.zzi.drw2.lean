/-! Drawing: ofBits() -/
theorem bI_n (b : Bool) : bI b = nI b.toNat := by cases b <;> rfl
theorem spN_as {as as' : Nat → Nat} {c : Nat} (h : ∀ j : Nat, j < c → as j = as' j) (x : Nat) : ∀ i : Nat, i ≤ c → spN as x i = spN as' x i := by
  intro i
  induction i with
  | zero => intro _; rfl
  | succ i ih => intro hi; rw [spN, spN, ih (by omega), h i (by omega)]
/-- what is left as it was by drawing -/
def FW (ad S : Nat → Nat) (I : Nat → Nat → Nat) (ln ad' S' : Nat → Nat) (I' : Nat → Nat → Nat) (ln' : Nat → Nat) : Prop := (∀ i : Nat, i < 7 ∨ 24 ≤ i → ¬ (31 ≤ i ∧ i < 37) → I' i = I i) ∧ (∀ s : Nat, s ≠ 8 → s ≠ 9 → s ≠ 10 → S' s = S s) ∧ I' 13 = I 13 ∧ FA ad ln ad' ln'
section DR2
variable {L : Nat → Nat → Int64} {E : (Nat → Prop) × (Nat → Option PE)} {R : Nat × Nat} {B e : Nat} {o rt g0 : Nat → Nat} {D0 : Nat → Fn} {f : Fn} {ad S : Nat → Nat} {I : Nat → Nat → Nat} {ln : Nat → Nat} {z : Nat × Nat} {u : PS} {g : Nat → Nat} {D : Nat → Fn} {F : Nat → Nat → Bool}
theorem FW.rf (ad S : Nat → Nat) (I : Nat → Nat → Nat) (ln : Nat → Nat) : FW ad S I ln ad S I ln := ⟨fun _ _ _ => rfl, fun _ _ _ _ => rfl, rfl, FA.rf ad ln⟩
theorem FW.tr {ad' S' : Nat → Nat} {I' : Nat → Nat → Nat} {ln' ad'' S'' : Nat → Nat} {I'' : Nat → Nat → Nat} {ln'' : Nat → Nat} (h : FW ad S I ln ad' S' I' ln') (k : FW ad' S' I' ln' ad'' S'' I'' ln'') : FW ad S I ln ad'' S'' I'' ln'' :=
  ⟨fun i hi hq => (k.1 i hi hq).trans (h.1 i hi hq), fun s a b c => (k.2.1 s a b c).trans (h.2.1 s a b c), k.2.2.1.trans h.2.2.1, h.2.2.2.tr k.2.2.2⟩
theorem FW.of {q : Nat} {ad' S' : Nat → Nat} {I' : Nat → Nat → Nat} {ln' : Nat → Nat} (h : FQ q ad S I ln ad' S' I' ln') (hq : 31 ≤ q ∧ q < 37) : FW ad S I ln ad' S' I' ln' := ⟨fun i hi hn => h.1 i hi (by omega), h.2.1, h.2.2.1, h.2.2.2⟩
theorem FW.put {I' : Nat → Nat → Nat} (h : ∀ i : Nat, ¬ (31 ≤ i ∧ i < 37) → I' i = I i) : FW ad S I ln ad S I' ln := ⟨fun i _ hi => h i hi, fun _ _ _ _ => rfl, h 13 (by omega), FA.rf ad ln⟩
theorem PT_fam {pl : Nat → Nat} {m c : Nat} {G : Nat → Bool} (h : ASK o m c pl) (ho : PO o) (hm : m < 1024) (hG : NUm G m) {fr to : Nat} (hto : to ≤ c) : FAM o pl (fnOf G) fr to (PT (fun j => o (pl j)) c (fnOf G)) := fun i _ h2 =>
  ⟨(h.2.1 i (by omega)).1, fun x => ⟨PT_nd (as := fun j => o (pl j)) (by omega) x, PT_ite (as := fun j => o (pl j)) (by omega) x, _, PT_fx h ho hm hG (by omega) x⟩⟩
theorem q_bits_L47 (l6 : ln 6 = 24) (l31 : ln 31 = 32) (l32 : ln 32 = 32) {p : Nat} (hp : p < 24) (fp : FP (F p) (I 6 p) (L (42 + p))) {c i : Nat} (hc : c ≤ 5) (hi : i < c) (hA : ∀ j : Nat, j < c → I 30 j < 10) {x2 x4 : Int32} {X : PS → Prop} (hX : ∀ (u' : PS) (I' : Nat → Nat → Nat), VC 69 ad S I' ln L E z u' → (∀ i : Nat, i ≠ 31 → i ≠ 32 → I' i = I i) → (∀ y : Nat, y < 2 ^ i + 2 ^ i → I' 31 y = spN (I 30) y (i + 1) ∧ I' 32 y = (F p (spN (I 30) y (i + 1))).toNat) → X u') : ∀ (d x : Nat) (u : PS) (I' : Nat → Nat → Nat), 2 ^ i < x + d → x ≤ 2 ^ i → VC 69 ad S I' ln L E z u → (∀ i : Nat, i ≠ 31 → i ≠ 32 → I' i = I i) → (∀ y : Nat, y < 2 ^ i + x → I' 31 y = spN (I 30) y (i + 1) ∧ I' 32 y = (F p (spN (I 30) y (i + 1))).toNat) → p_G_ofBits_L47 (ad 3) (nI p) x2 (nI (2 ^ i)) x4 ((1 : Int32) <<< (nI (I 30 i) &&& 31)) X d (nI x) u := by
  intro d
  induction d with
  | zero => intro x u I' h1 h2; exact absurd h1 (by omega)
  | succ d ih =>
    intro x u I' h1 h2 h fr hy
    have pi : 2 ^ i ≤ 16 := Nat.pow_le_pow_right (n := 2) (j := 4) (by decide) (by omega)
    rw [p_G_ofBits_L47]
    refine pk_le (2 ^ i) x (fun cc => ?_) (fun cc => ?_)
    · obtain rfl : x = 2 ^ i := by omega
      exact hX u I' h fr hy
    · have r31 := h.ia 31 (by decide) (ii (by decide)) (j := x) (by omega) (by omega)
      rw [(hy x (by omega)).1] at r31
      have a10 := hA i hi
      refine ⟨_, h.fG (by decide) rfl, _, r31, nm_e ?_⟩
      have lo : ∀ j : Nat, j < i → (2 ^ i + x).testBit j = x.testBit j := fun j hj => Nat.testBit_two_pow_add_gt hj x
      have xi : x.testBit i = false := Nat.testBit_lt_two_pow cc
      have top : (2 ^ i + x).testBit i = true := by rw [Nat.testBit_two_pow_add_eq, xi]; rfl
      have es : setb (spN (I 30) x (i + 1)) (I 30 i) true = spN (I 30) (2 ^ i + x) (i + 1) := by
        rw [spN, spN, xi, top, if_neg (by decide), if_pos rfl, spN_congr i lo]
      have s10 : spN (I 30) (2 ^ i + x) (i + 1) < 1024 := spN_lt (c := c) hA _ _ (by omega)
      rw [nI_set1 (by omega), es, nI_add]
      obtain ⟨u1, s1, k1⟩ := h.isx 31 (by decide) (ii (by decide)) (j := 2 ^ i + x) (by omega) (by omega) (spN (I 30) (2 ^ i + x) (i + 1))
      have i6 : va_up I' 31 (va_up (I' 31) (2 ^ i + x) (spN (I 30) (2 ^ i + x) (i + 1))) 6 = I 6 := by rw [up_ne _ _ (by decide)]; exact fr 6 (by decide) (by decide)
      obtain ⟨u2, s2, k2⟩ := k1.isx 32 (by decide) (ii (by decide)) (j := 2 ^ i + x) (by omega) (by omega) (F p (spN (I 30) (2 ^ i + x) (i + 1))).toNat
      refine ⟨_, h.fG (by decide) rfl, u1, s1, _, k1.fG (by decide) rfl, _, k1.fG (by decide) rfl, k1.obF (by decide), q_F_bit (F := F) k1 l6 hp (by rw [i6]; exact fp) s10 ⟨u2, by rw [bI_n]; exact s2, nm_e ?_⟩⟩
      rw [show (1 : Int32) = nI 1 from rfl, nI_add]
      have := ih (x + 1) u2 _ (by omega) (by omega) k2 (fun j j1 j2 => ?_) (fun y hyl => ?_)
      · exact this
      · rw [up_ne _ _ j2, up_ne _ _ j1]; exact fr j j1 j2
      · rw [up_ne (va_up I' 31 _) _ (show (31 : Nat) ≠ 32 by decide), up_eq, up_eq, up_ne I' _ (show (32 : Nat) ≠ 31 by decide)]
        by_cases c : y = 2 ^ i + x
        · subst c; rw [up_eq, up_eq]; exact ⟨rfl, rfl⟩
        · rw [up_ne _ _ c, up_ne _ _ c]; exact hy y (by omega)
theorem q_bits_L27 (l6 : ln 6 = 24) (l30 : ln 30 = 10) (l31 : ln 31 = 32) (l32 : ln 32 = 32) {p : Nat} (hp : p < 24) (fp : FP (F p) (I 6 p) (L (42 + p))) {c : Nat} (hc : c ≤ 5) (hA : ∀ j : Nat, j < c → I 30 j < 10) {X : PS → Prop} (hX : ∀ (u' : PS) (I' : Nat → Nat → Nat), VC 69 ad S I' ln L E z u' → (∀ i : Nat, i ≠ 31 → i ≠ 32 → I' i = I i) → (∀ y : Nat, y < 2 ^ c → I' 32 y = (F p (spN (I 30) y c)).toNat) → X u') : ∀ (d i : Nat) (u : PS) (I' : Nat → Nat → Nat), c < i + d → i ≤ c → VC 69 ad S I' ln L E z u → (∀ i : Nat, i ≠ 31 → i ≠ 32 → I' i = I i) → (∀ y : Nat, y < 2 ^ i → I' 31 y = spN (I 30) y i ∧ I' 32 y = (F p (spN (I 30) y i)).toNat) → p_G_ofBits_L27 (ad 3) (nI p) (nI c) X d (nI (2 ^ i)) (nI i) u := by
  intro d
  induction d with
  | zero => intro i u I' h1 h2; exact absurd h1 (by omega)
  | succ d ih =>
    intro i u I' h1 h2 h fr hy
    rw [p_G_ofBits_L27]
    refine pk_le c i (fun cc => ?_) (fun cc => ?_)
    · obtain rfl : i = c := by omega
      exact hX u I' h fr (fun y hyl => (hy y hyl).2)
    · have r30 := h.ia 30 (by decide) (ii (by decide)) (j := i) (by omega) (by omega)
      rw [fr 30 (by decide) (by decide)] at r30
      refine ⟨_, h.fG (by decide) rfl, _, r30, nm_e ⟨2 ^ i + 1, ?_⟩⟩
      refine q_bits_L47 (I := I) l6 l31 l32 hp fp hc cc hA (fun u1 I1 k1 f1 y1 => ?_) (2 ^ i + 1) 0 u I' (by omega) (Nat.zero_le _) h fr (fun y hyl => ?_)
      · unfold p_G_ofBits_J101
        refine nm_e (nm_e ?_)
        rw [show (2 : Int32) = nI 2 from rfl, pk_mul, show (1 : Int32) = nI 1 from rfl, nI_add, show 2 ^ i * 2 = 2 ^ (i + 1) from (Nat.pow_succ 2 i).symm]
        exact ih (i + 1) u1 I1 (by omega) (by omega) k1 f1 (fun y hyl => y1 y (by rw [Nat.pow_succ] at hyl; omega))
      · have hyl : y < 2 ^ i := by omega
        rw [show spN (I 30) y (i + 1) = spN (I 30) y i by rw [spN, Nat.testBit_lt_two_pow hyl, if_neg (by decide)]]
        exact hy y hyl
theorem q_G_ofBits {p : Nat} (hg : DG L E R B e o rt g0 D0 (fnOf (F p)) ad S I ln z u g D) (ho : PO o) (hp : p < 24) (l6 : ln 6 = 24) (l30 : ln 30 = 10) (l31 : ln 31 = 32) (l32 : ln 32 = 32) (fp : FP (F p) (I 6 p) (L (42 + p))) {pl : Nat → Nat} {c T : Nat} (hk : ASK o (I 6 p) c pl) (hc : c ≤ 5) (hA : ∀ i : Nat, i < c → I 30 i = o (pl i)) (hT : T + 2 ≤ 2 ^ e) (hB : T + 3 ≤ B) (hs : S 10 + (2 ^ c - 1) ≤ T)
    {Q : Int32 → PS → Prop} (hQ : ∀ (u' : PS) (m : Nat) (ad' S' : Nat → Nat) (I' : Nat → Nat → Nat) (ln' : Nat → Nat) (z' : Nat × Nat) (g' : Nat → Nat) (D' : Nat → Fn), DG L E R B e o rt g0 D0 (fnOf (F p)) ad' S' I' ln' z' u' g' D' → IN g' m → D' m = fnOf (F p) → S' 10 ≤ T → FW ad S I ln ad' S' I' ln' → KP g D g' D' → Q (nI m) u') : p_G_ofBits (ad 3) (nI p) (nI c) u Q := by
  have h := hg.1
  have hA10 : ∀ j : Nat, j < c → I 30 j < 10 := fun j hj => by rw [hA j hj]; exact hk.lt ho j hj
  unfold p_G_ofBits
  obtain ⟨u1, s1, k1⟩ := h.isx 31 (by decide) (ii (by decide)) (j := 0) (by omega) (by omega) 0
  have i6 : va_up I 31 (va_up (I 31) 0 0) 6 = I 6 := up_ne _ _ (by decide)
  obtain ⟨u2, s2, k2⟩ := k1.isx 32 (by decide) (ii (by decide)) (j := 0) (by omega) (by omega) (F p 0).toNat
  refine ⟨_, h.fG (by decide) rfl, u1, s1, _, k1.fG (by decide) rfl, _, k1.fG (by decide) rfl, k1.obF (by decide), q_F_bit (F := F) (v := 0) k1 l6 hp (by rw [i6]; exact fp) (by decide) ⟨u2, by rw [bI_n]; exact s2, c + 1, ?_⟩⟩
  refine q_bits_L27 (I := I) l6 l30 l31 l32 hp fp hc hA10 (fun u3 I3 k3 f3 y3 => ?_) (c + 1) 0 u2 _ (by omega) (by omega) k2 (fun j j1 j2 => ?_) (fun y hyl => ?_)
  · unfold p_G_ofBits_J111
    have hg3 := hg.put k3 (fun i i1 i2 => f3 i (by omega) (by omega))
    have c0 := hg.2.2.2.2.1
    refine ⟨_, k3.fG (by decide) rfl, k3.obG (by decide), q_G_folded (pl := pl) (h := PT (fun j => o (pl j)) c (fnOf (F p))) hg3 ho (PT_fam hk ho fp.1 fp.2.1 (Nat.le_refl _)) (Nat.zero_le _) hk.1 (by omega) (q := 32) (by decide) hT hB ?_ (by omega) l30 (fun i hi => ?_) (fun y _ hyl => ?_) ?_ (fun u4 m ad4 S4 I4 ln4 z4 g4 D4 v1 v2 v3 v4 v5 v6 => hQ u4 m ad4 S4 I4 ln4 z4 g4 D4 v1 v2 (by rw [v3]; exact PT_top _) v4 ((FW.put (fun i hi => f3 i (by omega) (by omega))).tr (FW.of v5 (by decide))) v6)⟩
    · rw [l32]; exact Nat.pow_le_pow_right (n := 2) (j := 5) (by decide) (by omega)
    · rw [f3 30 (by decide) (by decide)]; exact hA i hi
    · have hyl : y < 2 ^ c := hyl
      rw [y3 y hyl, PT_0 hk ho fp.1 fp.2.1, spN_as hA y c (Nat.le_refl _)]
      cases F p (spN (fun j => o (pl j)) y c)
      · exact ⟨Or.inl (by decide), c0.1⟩
      · exact ⟨Or.inl (by decide), c0.2.1⟩
    · exact hs
  · rw [up_ne _ _ j2, up_ne _ _ j1]
  · obtain rfl : y = 0 := by omega
    rw [up_ne (va_up I 31 _) _ (show (31 : Nat) ≠ 32 by decide), up_eq, up_eq, up_eq, up_eq]
    exact ⟨rfl, rfl⟩
end DR2
