/-! Drawing: arrange() -/
section AR2
variable {L : Nat → Nat → Int64} {E : (Nat → Prop) × (Nat → Option PE)} {ad S : Nat → Nat} {I : Nat → Nat → Nat} {ln : Nat → Nat} {z : Nat × Nat}
theorem q_arr_L2 (l35 : ln 35 = 10) (l36 : ln 36 = 10) {x1 : Int32} {X : PS → Prop} (hX : ∀ (u' : PS) (I' : Nat → Nat → Nat), VC 69 ad S I' ln L E z u' → (∀ i : Nat, i ≠ 35 → i ≠ 36 → I' i = I i) → (∀ k : Nat, k < 10 → I' 35 k = k ∧ I' 36 k = k) → X u') : ∀ (d k : Nat) (u : PS) (I' : Nat → Nat → Nat), 10 < k + d → k ≤ 10 → VC 69 ad S I' ln L E z u → (∀ i : Nat, i ≠ 35 → i ≠ 36 → I' i = I i) → (∀ k' : Nat, k' < k → I' 35 k' = k' ∧ I' 36 k' = k') → p_G_arrange_L2 (ad 3) x1 X d (nI k) u := by
  intro d
  induction d with
  | zero => intro k u I' h1 h2; exact absurd h1 (by omega)
  | succ d ih =>
    intro k u I' h1 h2 h fr hk
    rw [p_G_arrange_L2]
    refine pk_le 10 k (fun cc => ?_) (fun cc => ?_)
    · exact hX u I' h fr (fun k' hk' => hk k' (by omega))
    · obtain ⟨u1, s1, k1⟩ := h.isx 35 (by decide) (ii (by decide)) (j := k) (by omega) (by omega) k
      obtain ⟨u2, s2, k2⟩ := k1.isx 36 (by decide) (ii (by decide)) (j := k) (by omega) (by omega) k
      refine ⟨_, h.fG (by decide) rfl, u1, s1, _, k1.fG (by decide) rfl, u2, s2, nm_e ?_⟩
      rw [show (1 : Int32) = nI 1 from rfl, nI_add]
      refine ih (k + 1) u2 _ (by omega) (by omega) k2 (fun i i1 i2 => ?_) (fun k' hk' => ?_)
      · rw [up_ne _ _ i2, up_ne _ _ i1]; exact fr i i1 i2
      · rw [up_ne (va_up I' 35 _) _ (show (35 : Nat) ≠ 36 by decide), up_eq, up_eq, up_ne I' _ (show (36 : Nat) ≠ 35 by decide)]
        by_cases c : k' = k
        · subst c; rw [up_eq, up_eq]; exact ⟨rfl, rfl⟩
        · rw [up_ne _ _ c, up_ne _ _ c]; exact hk k' (by omega)
theorem PO.tr {s : Nat → Nat} (h : PO s) {a b : Nat} (ha : a < 10) (hb : b < 10) : PO (fun i => s (if i = b then a else if i = a then b else i)) := by
  refine ⟨fun i hi => h.1 _ ?_, fun i j hi hj e => ?_⟩
  · split
    · exact ha
    · split
      · exact hb
      · exact hi
  · have e := h.2 _ _ ?_ ?_ e
    · split at e <;> split at e <;> (try split at e) <;> (try split at e) <;> omega
    · split
      · exact ha
      · split
        · exact hb
        · exact hi
    · split
      · exact ha
      · split
        · exact hb
        · exact hj
theorem q_arr_L30 (l30 : ln 30 = 10) (l35 : ln 35 = 10) (l36 : ln 36 = 10) {c : Nat} (hc : c ≤ 10) (hA : ∀ j : Nat, j < c → I 30 j < 10) (hinj : ∀ i j : Nat, i < c → j < c → I 30 i = I 30 j → i = j) {r0 : Nat → Int64} {X : PS → Prop} (hX : ∀ (u' : PS) (I' : Nat → Nat → Nat) (r' : Nat → Int64) (s : Nat → Nat), VC 69 ad S I' ln (va_up L 41 r') E z u' → (∀ i : Nat, i ≠ 35 → i ≠ 36 → I' i = I i) → PO s → (∀ b : Nat, b < c → s b = I 30 b) → (∀ x : Asg, TB r' (numT (fun b => x (s b)) 10) = TB r0 (numT x 10)) → X u') : ∀ (d t : Nat) (u : PS) (I' : Nat → Nat → Nat) (r' : Nat → Int64) (s : Nat → Nat), c < t + d → t ≤ c → VC 69 ad S I' ln (va_up L 41 r') E z u → (∀ i : Nat, i ≠ 35 → i ≠ 36 → I' i = I i) → PO s → (∀ b : Nat, b < t → s b = I 30 b) → (∀ b : Nat, t ≤ b → b < 10 → I' 36 b = s b ∧ I' 35 (s b) = b) → (∀ x : Asg, TB r' (numT (fun b => x (s b)) 10) = TB r0 (numT x 10)) → p_G_arrange_L30 (ad 3) (nI c) X d (nI t) u := by
  intro d
  induction d with
  | zero => intro t u I' r' s h1 h2; exact absurd h1 (by omega)
  | succ d ih =>
    intro t u I' r' s h1 h2 h fr hs hlo hhi ht
    rw [p_G_arrange_L30]
    refine pk_le c t (fun cc => ?_) (fun cc => ?_)
    · exact hX u I' r' s h fr hs (fun b hb => hlo b (by omega)) ht
    · have a10 := hA t cc
      obtain ⟨b0, hb0, e0⟩ := hs.sur a10
      have ge : t ≤ b0 := Nat.not_lt.mp (fun q => by
        have := hinj b0 t (by omega) cc (by rw [← hlo b0 q]; exact e0)
        omega)
      have r30 := h.ia 30 (by decide) (ii (by decide)) (j := t) (by omega) (by omega)
      rw [fr 30 (by decide) (by decide)] at r30
      have r35 := h.ia 35 (by decide) (ii (by decide)) (j := I 30 t) (by omega) (by omega)
      rw [show I' 35 (I 30 t) = b0 by rw [← e0]; exact (hhi b0 ge hb0).2] at r35
      refine ⟨_, h.fG (by decide) rfl, _, h.fG (by decide) rfl, _, r30, _, r35, ?_⟩
      by_cases q : b0 = t
      · subst q
        refine br_t rfl ?_
        unfold p_G_arrange_J82
        refine nm_e ?_
        rw [show (1 : Int32) = nI 1 from rfl, nI_add]
        refine ih (b0 + 1) u I' r' s (by omega) (by omega) h fr hs (fun b hb => ?_) (fun b hb => hhi b (by omega)) ht
        by_cases w : b = b0
        · rw [w]; exact e0
        · exact hlo b (by omega)
      · refine br_f (fun w => q ((nI_eqI (by omega) (by omega)).mp w)) ⟨h.obG (by decide), q_G_exchange h (show t < b0 by omega) hb0 (fun u1 r1 k1 hx => ?_)⟩
        have t10 : t < 10 := by omega
        have st10 := hs.1 t t10
        have r36 := k1.ia 36 (by decide) (ii (by decide)) (j := t) (by omega) (by omega)
        rw [(hhi t (Nat.le_refl _) t10).1] at r36
        obtain ⟨u2, s2, k2⟩ := k1.isx 36 (by decide) (ii (by decide)) (j := b0) (by omega) (by omega) (s t)
        have r36b := k2.ia 36 (by decide) (ii (by decide)) (j := b0) (by omega) (by omega)
        rw [up_eq, up_eq] at r36b
        obtain ⟨u3, s3, k3⟩ := k2.isx 35 (by decide) (ii (by decide)) (j := s t) (by omega) (by omega) b0
        refine ⟨_, k1.fG (by decide) rfl, _, k1.fG (by decide) rfl, _, r36, u2, s2, _, k2.fG (by decide) rfl, _, k2.fG (by decide) rfl, _, r36b, u3, s3, ?_⟩
        unfold p_G_arrange_J82
        refine nm_e ?_
        rw [show (1 : Int32) = nI 1 from rfl, nI_add]
        have i36 : va_up (va_up I' 36 (va_up (I' 36) b0 (s t))) 35 (va_up (va_up I' 36 (va_up (I' 36) b0 (s t)) 35) (s t) b0) 36 = va_up (I' 36) b0 (s t) := by rw [up_ne _ _ (by decide), up_eq]
        have i35 : va_up (va_up I' 36 (va_up (I' 36) b0 (s t))) 35 (va_up (va_up I' 36 (va_up (I' 36) b0 (s t)) 35) (s t) b0) 35 = va_up (I' 35) (s t) b0 := by rw [up_eq, up_ne I' _ (by decide)]
        refine ih (t + 1) u3 _ r1 (fun i => s (if i = b0 then t else if i = t then b0 else i)) (by omega) (by omega) k3 (fun i i1 i2 => ?_) (hs.tr t10 hb0) (fun b hb => ?_) (fun b hb1 hb2 => ?_) (fun x => ?_)
        · rw [up_ne _ _ i1, up_ne _ _ i2]; exact fr i i1 i2
        · by_cases w : b = t
          · subst w; rw [if_neg (by omega), if_pos rfl]; exact e0
          · rw [if_neg (by omega), if_neg w]; exact hlo b (by omega)
        · rw [i36, i35]
          by_cases w : b = b0
          · subst w; rw [if_pos rfl, up_eq, up_eq]; exact ⟨rfl, rfl⟩
          · rw [if_neg w, if_neg (by omega), up_ne _ _ w]
            have := hhi b (by omega) hb2
            refine ⟨this.1, ?_⟩
            rw [up_ne _ _ (fun y => ?_)]
            · exact this.2
            · have := hs.2 b t hb2 t10 y
              omega
        · rw [hx _ (num_lt _), ← ht x]
          congr 1
          refine Nat.eq_of_testBit_eq (fun i => ?_)
          rw [tb_swb, tb_num, tb_num, tb_num, tb_num]
          by_cases w : i = b0
          · subst w
            rw [if_pos rfl, if_neg (by omega), if_pos rfl, decide_eq_true t10, decide_eq_true hb0]
          · rw [if_neg w]
            by_cases w2 : i = t
            · subst w2
              rw [if_pos rfl, if_pos rfl, decide_eq_true t10, decide_eq_true hb0]
            · rw [if_neg w2, if_neg w, if_neg w2]
theorem q_G_arrange {u : PS} {r : Nat → Int64} (h : VC 69 ad S I ln (va_up L 41 r) E z u) (l30 : ln 30 = 10) (l35 : ln 35 = 10) (l36 : ln 36 = 10) {c : Nat} (hc : c ≤ 10) (hA : ∀ j : Nat, j < c → I 30 j < 10) (hinj : ∀ i j : Nat, i < c → j < c → I 30 i = I 30 j → i = j) {K : PS → Prop} (hK : ∀ (u' : PS) (I' : Nat → Nat → Nat) (r' : Nat → Int64) (s : Nat → Nat), VC 69 ad S I' ln (va_up L 41 r') E z u' → (∀ i : Nat, i ≠ 35 → i ≠ 36 → I' i = I i) → PO s → (∀ b : Nat, b < c → s b = I 30 b) → (∀ x : Asg, TB r' (numT (fun b => x (s b)) 10) = TB r (numT x 10)) → K u') : p_G_arrange (ad 3) (nI c) u K := by
  unfold p_G_arrange
  refine ⟨11, q_arr_L2 l35 l36 (fun u1 I1 k1 f1 g1 => ?_) 11 0 u I (by omega) (by omega) h (fun _ _ _ => rfl) (fun k' hk' => absurd hk' (by omega))⟩
  unfold p_G_arrange_J28
  refine ⟨c + 1, q_arr_L30 l30 l35 l36 hc hA hinj hK (c + 1) 0 u1 I1 r (fun i => i) (by omega) (by omega) k1 f1 ⟨fun i hi => hi, fun i j _ _ e => e⟩ (fun b hb => absurd hb (by omega)) (fun b _ hb => ⟨(g1 b hb).2, (g1 b hb).1⟩) (fun x => rfl)⟩
end AR2
