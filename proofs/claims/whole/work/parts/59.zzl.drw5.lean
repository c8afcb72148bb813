/-! Drawing: ofWords() -/
section DR5
variable {L : Nat → Nat → Int64} {E : (Nat → Prop) × (Nat → Option PE)} {R : Nat × Nat} {B e : Nat} {o rt g0 : Nat → Nat} {D0 : Nat → Fn} {f : Fn} {ad S : Nat → Nat} {I : Nat → Nat → Nat} {ln : Nat → Nat} {z : Nat × Nat} {g : Nat → Nat} {D : Nat → Fn} {F : Nat → Nat → Bool}
theorem q_wds_L65 (ho : PO o) {pl : Nat → Nat} {p c s0 T m0 : Nat} (hk : ASK o m0 c pl) (hm : m0 < 1024) (hG : NUm (F p) m0) (hc : 6 ≤ c) {r : Nat → Int64} (hr : ∀ y : Nat, y < 2 ^ c → TB r y = F p (spN (fun j => o (pl j)) y c)) (hT : T + 2 ≤ 2 ^ e) (hB : T + 3 ≤ B) (hs : s0 + 13 + 16 * 2 ^ (c - 6) ≤ T) {x2 : Int32} {X : PS → Prop} {ad0 S0 : Nat → Nat} {I0 : Nat → Nat → Nat} {ln0 : Nat → Nat} {gb : Nat → Nat} {Db : Nat → Fn} (l30 : ln0 30 = 10) (l32 : ln0 32 = 32) (l33 : ln0 33 = 16) (l34 : ln0 34 = 16) (hA : ∀ i : Nat, i < c → I0 30 i = o (pl i))
    (hX : ∀ (u' : PS) (ad' S' : Nat → Nat) (I' : Nat → Nat → Nat) (ln' : Nat → Nat) (z' : Nat × Nat) (g' : Nat → Nat) (D' : Nat → Fn), DG (va_up L 41 r) E R B e o rt g0 D0 (fnOf (F p)) ad' S' I' ln' z' u' g' D' → RWP g' D' (I' 33) (PT (fun j => o (pl j)) c (fnOf (F p)) 6) 0 (2 ^ (c - 6)) → S' 10 ≤ s0 + 14 + 15 * 2 ^ (c - 6) → FW ad0 S0 I0 ln0 ad' S' I' ln' → KP gb Db g' D' → X u') :
    ∀ (d w : Nat) (u : PS) (ad' S' : Nat → Nat) (I' : Nat → Nat → Nat) (ln' : Nat → Nat) (z' : Nat × Nat) (g' : Nat → Nat) (D' : Nat → Fn), 2 ^ (c - 6) < w + d → w ≤ 2 ^ (c - 6) → DG (va_up L 41 r) E R B e o rt g0 D0 (fnOf (F p)) ad' S' I' ln' z' u g' D' → RWP g' D' (I' 33) (PT (fun j => o (pl j)) c (fnOf (F p)) 6) 0 w → CF (o (pl 0)) (o (pl 1)) g' D' (I' 34) → POT (o (pl 0)) (s0 + 15 * w) g' (S' 10) (I' 34) → FW ad0 S0 I0 ln0 ad' S' I' ln' → KP gb Db g' D' → p_G_ofWords_L65 (ad0 3) x2 (nI (2 ^ (c - 6))) X d (nI w) u := by
  have c10 := hk.1
  have n16 : 2 ^ (c - 6) ≤ 16 := Nat.pow_le_pow_right (n := 2) (j := 4) (by decide) (by omega)
  have e2 : 2 ^ c = 64 * 2 ^ (c - 6) := by rw [show (64 : Nat) = 2 ^ 6 from rfl, ← Nat.pow_add, show 6 + (c - 6) = c by omega]
  intro d
  induction d with
  | zero => intro w u ad' S' I' ln' z' g' D' w1 w2; exact absurd w1 (by omega)
  | succ d ih =>
    intro w u ad' S' I' ln' z' g' D' w1 w2 hg ra cfh pot fw kp
    have fa := fw.2.2.2
    have le := pot.le
    rw [p_G_ofWords_L65]
    refine pk_le (2 ^ (c - 6)) w (fun cc => ?_) (fun cc => ?_)
    · obtain rfl : w = 2 ^ (c - 6) := by omega
      exact hX u ad' S' I' ln' z' g' D' hg ra (by omega) fw kp
    · have hv := hg.1
      have w16 : w < 16 := by omega
      have l30' : ln' 30 = 10 := by rw [(fa 30 (by decide)).2]; exact l30
      have l32' : ln' 32 = 32 := by rw [(fa 32 (by decide)).2]; exact l32
      have l33' : ln' 33 = 16 := by rw [(fa 33 (by decide)).2]; exact l33
      have l34' : ln' 34 = 16 := by rw [(fa 34 (by decide)).2]; exact l34
      have i30 : I' 30 = I0 30 := fw.1 30 (by decide) (by decide)
      have hA' : ∀ i : Nat, i < c → I' 30 i = o (pl i) := fun i hi => by rw [i30]; exact hA i hi
      have q3 : ad' 3 = ad0 3 := (fa 3 (by decide)).1
      rw [← q3]
      refine ⟨w + 1, q_wds_L74 hv w16 (fun t t1 t2 => ?_) (w + 1) 0 (by omega) (by omega)⟩
      unfold p_G_ofWords_J105
      refine pk_le w t (fun c1 => ⟨17, ?_⟩) (fun c1 => ?_)
      · refine q_wds_L132 (F := F) (p := p) (L := L) (s := s0 + 15 * w) (T := T) ho hk hm hG hc cc hr hT hB (by omega) (ad0 := ad') (S0 := S') (I0 := I') (ln0 := ln') (gb := g') (Db := D') l30' l32' l34' hA' (fun u1 ad1 S1 I1 ln1 z1 g1 D1 v1 v2 v3 v4 v5 v6 v7 => ?_) 17 0 u ad' S' I' ln' z' g' D' (by omega) (by omega) hg (fun y _ y2 => absurd y2 (by omega)) cfh pot (FW.rf ad' S' I' ln') rfl (KP.rf g' D')
        have fb := v5.2.2.2
        have le1 := v4.le
        unfold p_G_ofWords_J172
        rw [← (fb 3 (by decide)).1]
        refine ⟨_, v1.1.fG (by decide) rfl, _, v1.1.fG (by decide) rfl, v1.1.obG (by decide), ?_⟩
        have i30b : I1 30 = I' 30 := v5.1 30 (by decide) (by decide)
        refine q_G_folded (pl := pl) (T := S1 10 + 15) (q := 32) v1 ho (PT_famw hk ho hm hG hc w) (by decide) (by decide) (by decide) (by decide) (by omega) (by omega) (by rw [(fb 32 (by decide)).2, l32']; decide) (by rw [(fb 32 (by decide)).2, l32']; decide) (by rw [(fb 30 (by decide)).2]; exact l30') (fun i hi => by rw [i30b]; exact hA' i (by omega)) v2 (Nat.le_refl _) (fun u2 m ad2 S2 I2 ln2 z2 g2 D2 y1 y2 y3 y4 y5 y6 => ?_)
        have fc := y5.2.2.2
        have l33'' : ln2 33 = 16 := by rw [(fc 33 (by decide)).2, (fb 33 (by decide)).2]; exact l33'
        have i33 : I2 33 = I' 33 := (y5.1 33 (by decide) (by decide)).trans v6
        have i34 : I2 34 = I1 34 := y5.1 34 (by decide) (by decide)
        have y3' : D2 m = PT (fun j => o (pl j)) c (fnOf (F p)) 6 w := by
          rw [y3]
          show PT _ c _ 6 (2 ^ (6 - 6) * w + 0) = _
          rw [show 2 ^ (6 - 6) * w + 0 = w by rw [show 2 ^ (6 - 6) = 1 from rfl, Nat.one_mul, Nat.add_zero]]
        obtain ⟨u3, s3, k3⟩ := y1.1.isx 33 (by decide) (ii (by decide)) (j := w) (by omega) (by omega) m
        rw [← (fc 33 (by decide)).1]
        refine ⟨u3, s3, ?_⟩
        unfold p_G_ofWords_J190
        refine nm_e ?_
        rw [show (1 : Int32) = nI 1 from rfl, nI_add, (fb 3 (by decide)).1, q3]
        refine ih (w + 1) u3 ad2 S2 _ ln2 z2 g2 D2 (by omega) (by omega) (y1.put k3 (fun i q1 q2 => up_ne _ _ (by omega))) (fun y b1 b2 => ?_) (by rw [up_ne _ _ (by decide), i34]; exact v3.kp y6) (by rw [up_ne _ _ (by decide), i34]; exact v4.mono y6 (by omega)) (fw.tr (v5.tr ((FW.of y5 (by decide)).tr (FW.put (fun i hi => up_ne _ _ (by omega)))))) (kp.tr (v7.tr y6))
        rw [up_eq]
        by_cases cy : y = w
        · subst cy; rw [up_eq]; exact ⟨y2, y3'⟩
        · rw [up_ne _ _ cy, i33]; exact (ra.kp (v7.tr y6)) y b1 (by omega)
      · have et := t2 c1
        have r33 := hv.ia 33 (by decide) (ii (by decide)) (j := t) (by omega) (by omega)
        obtain ⟨u3, s3, k3⟩ := hv.isx 33 (by decide) (ii (by decide)) (j := w) (by omega) (by omega) (I' 33 t)
        refine ⟨_, hv.fG (by decide) rfl, _, hv.fG (by decide) rfl, _, r33, u3, s3, ?_⟩
        unfold p_G_ofWords_J190
        refine nm_e ?_
        rw [show (1 : Int32) = nI 1 from rfl, nI_add, q3]
        refine ih (w + 1) u3 ad' S' _ ln' z' g' D' (by omega) (by omega) (hg.put k3 (fun i q1 q2 => up_ne _ _ (by omega))) (fun y b1 b2 => ?_) (by rw [up_ne _ _ (by decide)]; exact cfh) (by rw [up_ne _ _ (by decide)]; exact pot.mono (KP.rf g' D') (by omega)) (fw.tr (FW.put (fun i hi => up_ne _ _ (by omega)))) kp
        rw [up_eq]
        by_cases cy : y = w
        · subst cy
          rw [up_eq]
          have a := ra t (by omega) c1
          refine ⟨a.1, a.2.trans (PT_eq hk ho hm hG 6 t y hc (fun b hb => ?_))⟩
          rw [show 2 ^ 6 = 64 from rfl] at hb ⊢
          rw [← hr _ (by omega), ← hr _ (by omega), TB_wb _ _ hb, TB_wb _ _ hb, et]
        · rw [up_ne _ _ cy]; exact ra y b1 (by omega)
theorem q_G_ofWords {p : Nat} {u : PS} (hg : DG L E R B e o rt g0 D0 (fnOf (F p)) ad S I ln z u g D) (ho : PO o) (hp : p < 24) (l6 : ln 6 = 24) (l30 : ln 30 = 10) (l32 : ln 32 = 32) (l33 : ln 33 = 16) (l34 : ln 34 = 16) (l35 : ln 35 = 10) (l36 : ln 36 = 10) (fp : FP (F p) (I 6 p) (L (42 + p))) {pl : Nat → Nat} {c T : Nat} (hk : ASK o (I 6 p) c pl) (hc : 6 ≤ c) (hA : ∀ i : Nat, i < c → I 30 i = o (pl i)) (hT : T + 2 ≤ 2 ^ e) (hB : T + 3 ≤ B) (hs : S 10 + 13 + 16 * 2 ^ (c - 6) ≤ T)
    {Q : Int32 → PS → Prop} (hQ : ∀ (u' : PS) (m : Nat) (ad' S' : Nat → Nat) (I' : Nat → Nat → Nat) (ln' : Nat → Nat) (z' : Nat × Nat) (g' : Nat → Nat) (D' : Nat → Fn) (r : Nat → Int64), DG (va_up L 41 r) E R B e o rt g0 D0 (fnOf (F p)) ad' S' I' ln' z' u' g' D' → IN g' m → D' m = fnOf (F p) → S' 10 ≤ T → FW ad S I ln ad' S' I' ln' → KP g D g' D' → Q (nI m) u') : p_G_ofWords (ad 3) (nI p) (nI c) u Q := by
  have h := hg.1
  have c10 := hk.1
  have hA10 : ∀ j : Nat, j < c → I 30 j < 10 := fun j hj => by rw [hA j hj]; exact hk.lt ho j hj
  have hinj : ∀ i j : Nat, i < c → j < c → I 30 i = I 30 j → i = j := fun i j hi hj q => hk.inj ho i j hi hj (by rw [← hA i hi, ← hA j hj]; exact q)
  have p6 : 0 < 2 ^ (c - 6) := Nat.pow_pos (by decide)
  have n16 : 2 ^ (c - 6) ≤ 16 := Nat.pow_le_pow_right (n := 2) (j := 4) (by decide) (by omega)
  have hL : va_up L 41 (L 41) = L := by
    funext i
    by_cases q : i = 41
    · subst q; exact up_eq _ _ _
    · exact up_ne _ _ q
  unfold p_G_ofWords
  refine ⟨17, q_wds_L2 (I := I) (L := L) l6 hp fp.1 (fun u1 r1 k1 hr1 => ?_) 17 0 u (L 41) (by omega) (by omega) (by rw [hL]; exact h) (fun y hy => absurd hy (by omega))⟩
  unfold p_G_ofWords_J29
  refine ⟨k1.obG (by decide), q_G_arrange k1 l30 l35 l36 hk.1 hA10 hinj (fun u2 I2 r2 s k2 f2 hs2 hsc ht => ⟨17, ?_⟩)⟩
  have tab : ∀ y : Nat, y < 2 ^ c → TB r2 y = F p (spN (fun j => o (pl j)) y c) := fun y hy => arr_tab (p := p) ho hk hs2 (fun b hb => by rw [hsc b hb]; exact hA b hb) (fun x => by
    rw [ht x]
    have lt := num_lt x
    unfold TB
    rw [hr1 _ (by omega), fp.w (by omega) (by omega), show 64 * (numT x 10 / 64) + numT x 10 % 64 = numT x 10 by omega]) hy
  refine q_wds_L36 (I := I2) l34 (fun u3 I3 k3 f3 hn => ?_) 17 0 u2 I2 (by omega) (by omega) k2 (fun _ _ => rfl) (fun y hy => absurd hy (by omega))
  unfold p_G_ofWords_J55
  refine nm_e ⟨2 ^ (c - 6) + 1, ?_⟩
  rw [show (6 : Int32) = nI 6 from rfl, pk_sub hc, nI_pw (by omega)]
  have fr : ∀ i : Nat, ¬ (31 ≤ i ∧ i < 37) → I3 i = I i := fun i hi => by rw [f3 i (by omega), f2 i (by omega) (by omega)]
  have hg3 := hg.put k3 (fun i i1 i2 => fr i (by omega))
  refine q_wds_L65 (F := F) (p := p) (L := L) (s0 := S 10) (T := T) (ad0 := ad) (S0 := S) (I0 := I) (ln0 := ln) (gb := g) (Db := D) ho hk fp.1 fp.2.1 hc tab hT hB hs l30 l32 l33 l34 hA (fun u4 ad4 S4 I4 ln4 z4 g4 D4 v1 v2 v3 v4 v5 => ?_) (2 ^ (c - 6) + 1) 0 u3 ad S I3 ln z g D (by omega) (Nat.zero_le _) hg3 (fun y _ y2 => absurd y2 (by omega)) (fun x hx => Or.inl (hn x hx)) ⟨0, 0, by decide, by decide, by omega, fun q => absurd q (by decide), fun q => absurd q (by decide)⟩ (FW.put fr) (KP.rf g D)
  unfold p_G_ofWords_J196
  have fa := v4.2.2.2
  rw [← (fa 3 (by decide)).1]
  refine ⟨_, v1.1.fG (by decide) rfl, v1.1.obG (by decide), q_G_folded (pl := pl) (T := T) (q := 33) (h := PT (fun j => o (pl j)) c (fnOf (F p))) v1 ho (PT_fam hk ho fp.1 fp.2.1 (Nat.le_refl _)) hc c10 (by omega) (by decide) hT hB (by rw [(fa 33 (by decide)).2, l33]; exact n16) (by rw [(fa 33 (by decide)).2, l33]; decide) (by rw [(fa 30 (by decide)).2]; exact l30) (fun i hi => by rw [v4.1 30 (by decide) (by decide)]; exact hA i hi) v2 (by omega) (fun u5 m ad5 S5 I5 ln5 z5 g5 D5 y1 y2 y3 y4 y5 y6 => hQ u5 m ad5 S5 I5 ln5 z5 g5 D5 r2 y1 y2 (by rw [y3]; exact PT_top _) y4 (v4.tr (FW.of y5 (by decide))) (v5.tr y6))⟩
end DR5
