/-! Nodes: sizeFrom(), questionFrom(); Diagrams: sizeOf(), questionOf() -/
/-- what is reached in d steps -/
def RCd (g : Nat → Nat) : Nat → Nat → Nat → Prop
  | 0, _, _ => False
  | d + 1, n, m => g n ≠ 0 ∧ (m = n ∨ RCd g d (n0 (g n)) m ∨ RCd g d (n1 (g n)) m)
section RCs
variable {o : Nat → Nat} {g : Nat → Nat} {D : Nat → Fn}
theorem RCd.live : ∀ (d n m : Nat), RCd g d n m → g m ≠ 0 := by
  intro d
  induction d with
  | zero => intro n m h; exact absurd h (fun w => w)
  | succ d ih =>
    intro n m h
    rcases h with ⟨h1, h2 | h2 | h2⟩
    · rw [h2]; exact h1
    · exact ih _ _ h2
    · exact ih _ _ h2
theorem RCd.head : ∀ (d n m : Nat), RCd g d n m → g n ≠ 0 := by
  intro d n m h
  cases d with
  | zero => exact absurd h (fun w => w)
  | succ d => exact h.1
/-- its next ones are reached too -/
theorem RCd.next (hc : CAN (Wo o) g D) (ho : PO o) : ∀ (d n m i : Nat), i < 10 → nk (g n) = o i → 10 ≤ i + d → RCd g d n m → ∀ c : Nat, (n0 (g m) = c ∨ n1 (g m) = c) → g c ≠ 0 → RCd g d n c := by
  intro d
  induction d with
  | zero => intro n m i _ _ _ h; exact absurd h (fun w => w)
  | succ d ih =>
    intro n m i hi hk hd h c hch hl
    obtain ⟨h1, h2⟩ := h
    refine ⟨h1, ?_⟩
    have dp : ∀ c' : Nat, (n0 (g n) = c' ∨ n1 (g n) = c') → g c' ≠ 0 → ∃ l : Nat, l < 10 ∧ nk (g c') = o l ∧ 10 ≤ l + d := fun c' hc' hl' => by
      obtain ⟨l, l1, l2, l3⟩ := hc.later ho h1 hi hk hc' hl'
      exact ⟨l, l1, l2, by omega⟩
    rcases h2 with h2 | h2 | h2
    · subst h2
      obtain ⟨l, l1, l2, l3⟩ := dp c hch hl
      obtain ⟨d', rfl⟩ : ∃ d' : Nat, d = d' + 1 := ⟨d - 1, by omega⟩
      rcases hch with q | q
      · exact Or.inr (Or.inl (by rw [q]; exact ⟨hl, Or.inl rfl⟩))
      · exact Or.inr (Or.inr (by rw [q]; exact ⟨hl, Or.inl rfl⟩))
    · obtain ⟨l, l1, l2, l3⟩ := dp _ (Or.inl rfl) (RCd.head _ _ _ h2)
      exact Or.inr (Or.inl (ih _ m l l1 l2 l3 h2 c hch hl))
    · obtain ⟨l, l1, l2, l3⟩ := dp _ (Or.inr rfl) (RCd.head _ _ _ h2)
      exact Or.inr (Or.inr (ih _ m l l1 l2 l3 h2 c hch hl))
theorem RCd.par : ∀ (d n m : Nat), RCd g d n m → m = n ∨ ∃ k : Nat, RCd g d n k ∧ (n0 (g k) = m ∨ n1 (g k) = m) := by
  intro d
  induction d with
  | zero => intro n m h; exact absurd h (fun w => w)
  | succ d ih =>
    intro n m h
    obtain ⟨h1, h2⟩ := h
    rcases h2 with h2 | h2 | h2
    · exact Or.inl h2
    · refine Or.inr ?_
      rcases ih _ _ h2 with w | ⟨k, w1, w2⟩
      · exact ⟨n, ⟨h1, Or.inl rfl⟩, Or.inl w.symm⟩
      · exact ⟨k, ⟨h1, Or.inr (Or.inl w1)⟩, w2⟩
    · refine Or.inr ?_
      rcases ih _ _ h2 with w | ⟨k, w1, w2⟩
      · exact ⟨n, ⟨h1, Or.inl rfl⟩, Or.inr w.symm⟩
      · exact ⟨k, ⟨h1, Or.inr (Or.inr w1)⟩, w2⟩
/-- how many are reached from a root: the questions of its function -/
theorem ST.one {F : Nat → Nat → Bool} {rt : Nat → Nat} (h : ST o F g D rt) (ho : PO o) {p N : Nat} (hp : p < 24) (hc : Cnt (fun m => RCd g 10 (rt p) m) N) : wh (PR p 1) F o = N := by
  obtain ⟨can, hr, _⟩ := h
  obtain ⟨g', h1, h2⟩ : ∃ g' : Nat → Nat, (∀ m : Nat, RCd g 10 (rt p) m → g' m = g m) ∧ (∀ m : Nat, ¬ RCd g 10 (rt p) m → g' m = 0) :=
    ⟨fun m => @ite _ (RCd g 10 (rt p) m) (Classical.propDecidable _) (g m) 0, fun m q => if_pos q, fun m q => if_neg q⟩
  have live : ∀ m : Nat, g' m ≠ 0 ↔ RCd g 10 (rt p) m := fun m => by
    by_cases q : RCd g 10 (rt p) m
    · exact ⟨fun _ => q, fun _ => by rw [h1 m q]; exact RCd.live _ _ _ q⟩
    · exact ⟨fun w => absurd (h2 m q) w, fun w => absurd w q⟩
  have nx : ∀ m : Nat, RCd g 10 (rt p) m → ∀ c : Nat, (n0 (g m) = c ∨ n1 (g m) = c) → IN g c → IN g' c := fun m hm c hch hin => by
    by_cases q : c < 2
    · exact Or.inl q
    · have hl : g c ≠ 0 := hin.resolve_left q
      have hh := RCd.head _ _ _ hm
      obtain ⟨i, hi, ei, _⟩ := can.w hh
      exact Or.inr ((live c).mpr (RCd.next can ho 10 _ m i hi ei.symm (by omega) hm c hch hl))
  have inl : ∀ m : Nat, IN g' m → IN g m := fun m hm => by
    rcases hm with q | q
    · exact Or.inl q
    · exact Or.inr (RCd.live _ _ _ ((live m).mp q))
  have can' : CAN (Wo o) g' D := by
    refine ⟨can.1, can.2.1, fun m hm => ?_, fun a b ha hb e => can.inj (inl a ha) (inl b hb) e⟩
    have hR := (live m).mp hm
    have hl := RCd.live _ _ _ hR
    rw [h1 m hR]
    exact ⟨can.ge hl, can.lt hl, can.k hl, nx m hR _ (Or.inl rfl) (can.i0 hl), nx m hR _ (Or.inr rfl) (can.i1 hl), can.c0 hl, can.c1 hl, can.ne hl, can.w hl⟩
  have rin : IN g' (rt p) := by
    rcases (hr p hp).1 with q | q
    · exact Or.inl q
    · exact Or.inr ((live _).mpr ⟨q, Or.inl rfl⟩)
  have st : ST o (fun _ => F p) g' D (fun _ => rt p) := by
    refine ⟨can', fun q hq => ⟨rin, (hr p hp).2⟩, fun m hm => ?_⟩
    rcases RCd.par _ _ _ ((live m).mp hm) with w | ⟨k, w1, w2⟩
    · exact Or.inr ⟨0, by decide, w.symm⟩
    · exact Or.inl ⟨k, (live k).mpr w1, by rw [h1 k w1]; exact w2⟩
  have := st.nw ho (hc.congr (fun m => (live m).symm))
  rw [← this]
  unfold wh
  refine sumTo_congr 10 (fun j _ => ?_)
  unfold qn
  congr 1
  funext f
  unfold QP PR
  refine propext ⟨?_, ?_⟩
  · rintro ⟨⟨q, ⟨w, w1, w2⟩, a, ea⟩, hd⟩
    exact ⟨⟨0, ⟨0, by decide, rfl⟩, a, by rw [ea, w2, show p + w = p by omega]⟩, hd⟩
  · rintro ⟨⟨q, _, a, ea⟩, hd⟩
    exact ⟨⟨p, ⟨0, by decide, rfl⟩, a, ea⟩, hd⟩
end RCs
section SIZ
variable {L : Nat → Nat → Int64} {E : (Nat → Prop) × (Nat → Option PE)} {R n : Nat × Nat} {e t : Nat} {o rt : Nat → Nat} {ad S : Nat → Nat} {I : Nat → Nat → Nat} {ln : Nat → Nat} {z : Nat × Nat} {u : PS} {g : Nat → Nat} {D : Nat → Fn} {F Fd : Nat → Nat → Bool}
/-- those that are marked -/
def MK (g S : Nat → Nat) (I : Nat → Nat → Nat) (m : Nat) : Prop := g m ≠ 0 ∧ I 13 m = S 11
theorem q_unseen (hc : CAN (Wo o) g D) (ho : PO o) (sh : SH R S ln z e) (l11 : S 11 < 2 ^ 31) : ∀ (d f x i k : Nat) (u : PS) (I : Nat → Nat → Nat) (Q : Int32 → PS → Prop), d + 1 ≤ f → d < 100 → VC 69 ad S I ln L E z u → DS e g (fun _ => False) S I ln → IN g x → (g x ≠ 0 → i < 10 ∧ nk (g x) = o i ∧ 10 ≤ i + d) → (∀ m : Nat, I 13 m ≤ S 11) → (∀ m l : Nat, MK g S I m → l < 10 → nk (g m) = o l → i ≤ l → ∀ c : Nat, (n0 (g m) = c ∨ n1 (g m) = c) → g c ≠ 0 → MK g S I c) → Cnt (MK g S I) k → (∀ (u' : PS) (I' : Nat → Nat → Nat) (r : Nat), VC 69 ad S I' ln L E z u' → (∀ j : Nat, j ≠ 13 → I' j = I j) → (∀ m : Nat, I' 13 m ≤ S 11) → (∀ m : Nat, MK g S I' m ↔ MK g S I m ∨ RCd g d x m) → Cnt (MK g S I') (k + r) → Q (nI r) u') → p_N_unseenFrom f (ad 4) (nI x) (nI d) u Q := by
  intro d
  induction d with
  | zero =>
    intro f x i k u I Q hf hd h ds hx hl hle hcl hk hQ
    obtain ⟨f', rfl⟩ : ∃ f' : Nat, f = f' + 1 := ⟨f - 1, by omega⟩
    rw [p_N_unseenFrom]
    have x2 : x < 2 := Classical.byContradiction (fun q => by have := hl (hx.resolve_left q); omega)
    exact br_t (nI_lt (a := x) (b := 2) x2 (by decide)) (hQ u I 0 h (fun _ _ => rfl) hle (fun m => ⟨Or.inl, fun w => w.resolve_right (fun w => w)⟩) hk)
  | succ d ih =>
    intro f x i k u I Q hf hd h ds hx hl hle hcl hk hQ
    obtain ⟨f', rfl⟩ : ∃ f' : Nat, f = f' + 1 := ⟨f - 1, by omega⟩
    rw [p_N_unseenFrom]
    by_cases x2 : x < 2
    · refine br_t (nI_lt (a := x) (b := 2) x2 (by decide)) (hQ u I 0 h (fun _ _ => rfl) hle (fun m => ⟨Or.inl, fun w => w.resolve_right (fun w => w.1 (hc.nz x2))⟩) hk)
    · have xl : g x ≠ 0 := hx.resolve_left x2
      obtain ⟨hi, hki, hid⟩ := hl xl
      have xs := ds.inlt sh hx
      have se := sh.le
      refine br_f (Int32.not_lt.mpr (nI_le (a := 2) (b := x) (by omega) (by omega))) (br_f (fun w => absurd ((nI_0I (by omega)).mp w) (by omega)) ⟨_, h.fN (by decide) rfl, _, h.nia sh 13 n13 xs, _, h.fN (by decide) rfl, ?_⟩)
      have hx11 := hle x
      have later : ∀ c : Nat, (n0 (g x) = c ∨ n1 (g x) = c) → g c ≠ 0 → ∃ l : Nat, l < 10 ∧ nk (g c) = o l ∧ i < l := fun c q1 q2 => hc.later ho xl hi hki q1 q2
      by_cases c13 : I 13 x = S 11
      · -- it is marked, and all behind it
        have rch : ∀ (d' n m l : Nat), MK g S I n → l < 10 → nk (g n) = o l → i ≤ l → RCd g d' n m → MK g S I m := by
          intro d'
          induction d' with
          | zero => intro n m l _ _ _ _ w; exact absurd w (fun w => w)
          | succ d' ih' =>
            intro n m l hn hl1 hl2 hl3 hr
            obtain ⟨r1, r2⟩ := hr
            have stp : ∀ c : Nat, (n0 (g n) = c ∨ n1 (g n) = c) → RCd g d' c m → MK g S I m := fun c hch hrc => by
              have hcl' := RCd.head _ _ _ hrc
              obtain ⟨l', a1, a2, a3⟩ := hc.later ho r1 hl1 hl2 hch hcl'
              exact ih' c m l' (hcl n l hn hl1 hl2 hl3 c hch hcl') a1 a2 (by omega) hrc
            rcases r2 with r2 | r2 | r2
            · rw [r2]; exact hn
            · exact stp _ (Or.inl rfl) r2
            · exact stp _ (Or.inr rfl) r2
        refine brn_t (by rw [c13]) (hQ u I 0 h (fun _ _ => rfl) hle (fun m => ⟨Or.inl, fun w => ?_⟩) hk)
        rcases w with w | w
        · exact w
        · exact rch (d + 1) x m i ⟨xl, c13⟩ hi hki (Nat.le_refl _) w
      · refine brn_f (fun w => c13 ((nI_eqI (by omega) (by omega)).mp w)) ?_
        obtain ⟨u1, s1, h1⟩ := h.nis sh 13 n13 xs (S 11)
        have ds1 : DS e g (fun _ => False) S (va_up I 13 (va_up (I 13) x (S 11))) ln := ds.cong (fun j _ _ _ q => up_ne _ _ q) rfl rfl rfl (fun _ _ => rfl)
        have r7 := h1.nia sh 7 n7 xs
        rw [ds1.cg hx, cg_lt (by omega)] at r7
        have w32 := (ds.2.2.1 x xl).2.2
        refine ⟨_, h.fN (by decide) rfl, _, h.fN (by decide) rfl, u1, s1, _, h1.fN (by decide) rfl, _, r7, h1.obN (by decide), ?_⟩
        rw [nI_n0 w32, nI_n1, show (1 : Int32) = nI 1 from rfl, pk_sub (show 1 ≤ d + 1 by omega), show d + 1 - 1 = d by omega]
        have mk1 : ∀ m : Nat, MK g S (va_up I 13 (va_up (I 13) x (S 11))) m ↔ MK g S I m ∨ m = x := fun m => by
          unfold MK
          rw [up_eq]
          by_cases q : m = x
          · subst q; rw [up_eq]; exact ⟨fun _ => Or.inr rfl, fun _ => ⟨xl, rfl⟩⟩
          · rw [up_ne _ _ q]; exact ⟨Or.inl, fun w => w.resolve_right q⟩
        have ct1 : Cnt (MK g S (va_up I 13 (va_up (I 13) x (S 11)))) (k + 1) := hk.add x (fun w => c13 w.2) mk1
        -- the levels of the next ones
        obtain ⟨l0, hl0, hi0⟩ : ∃ l0 : Nat, (g (n0 (g x)) ≠ 0 → l0 < 10 ∧ nk (g (n0 (g x))) = o l0 ∧ 10 ≤ l0 + d) ∧ i < l0 := by
          by_cases q : g (n0 (g x)) = 0
          · exact ⟨i + 1, fun w => absurd q w, by omega⟩
          · obtain ⟨l, a1, a2, a3⟩ := later _ (Or.inl rfl) q
            exact ⟨l, fun _ => ⟨a1, a2, by omega⟩, a3⟩
        obtain ⟨l1, hl1, hi1⟩ : ∃ l1 : Nat, (g (n1 (g x)) ≠ 0 → l1 < 10 ∧ nk (g (n1 (g x))) = o l1 ∧ 10 ≤ l1 + d) ∧ i < l1 := by
          by_cases q : g (n1 (g x)) = 0
          · exact ⟨i + 1, fun w => absurd q w, by omega⟩
          · obtain ⟨l, a1, a2, a3⟩ := later _ (Or.inr rfl) q
            exact ⟨l, fun _ => ⟨a1, a2, by omega⟩, a3⟩
        have clo : ∀ m l : Nat, (MK g S I m ∨ m = x) → l < 10 → nk (g m) = o l → i < l → ∀ c : Nat, (n0 (g m) = c ∨ n1 (g m) = c) → g c ≠ 0 → MK g S I c := fun m l hm hl' hkl hil c hch hcl' => by
          rcases hm with hm | hm
          · exact hcl m l hm hl' hkl (by omega) c hch hcl'
          · subst hm
            have := ho.2 i l hi hl' (by rw [← hki]; exact hkl)
            omega
        refine ih f' (n0 (g x)) l0 (k + 1) u1 _ _ (by omega) (by omega) h1 ds1 (hc.i0 xl) hl0 (fun m => ?_) (fun m l hm hl' hkl hil c hch hcl' => (mk1 c).mpr (Or.inl (clo m l ((mk1 m).mp hm) hl' hkl (by omega) c hch hcl'))) ct1 (fun u2 I2 r0 v1 v2 v3 v4 v5 => ?_)
        · rw [up_eq]
          by_cases q : m = x
          · subst q; rw [up_eq]; exact Nat.le_refl _
          · rw [up_ne _ _ q]; exact hle m
        · have ds2 : DS e g (fun _ => False) S I2 ln := ds1.cong (fun j _ _ _ q => v2 j q) rfl rfl rfl (fun _ _ => rfl)
          refine ⟨v1.obN (by decide), ih f' (n1 (g x)) l1 (k + 1 + r0) u2 I2 _ (by omega) (by omega) v1 ds2 (hc.i1 xl) hl1 v3 (fun m l hm hl' hkl hil c hch hcl' => ?_) v5 (fun u3 I3 r1 y1 y2 y3 y4 y5 => ?_)⟩
          · rcases (v4 m).mp hm with w | w
            · exact (v4 c).mpr (Or.inl ((mk1 c).mpr (Or.inl (clo m l ((mk1 m).mp w) hl' hkl (by omega) c hch hcl'))))
            · have hh := hl0 (RCd.head _ _ _ w)
              exact (v4 c).mpr (Or.inr (RCd.next hc ho d _ m l0 hh.1 hh.2.1 hh.2.2 w c hch hcl'))
          · rw [nI_add, nI_add]
            refine hQ u3 I3 (1 + r0 + r1) y1 (fun j hj => by rw [y2 j hj, v2 j hj, up_ne _ _ hj]) y3 (fun m => ?_) (by rw [show k + (1 + r0 + r1) = k + 1 + r0 + r1 by omega]; exact y5)
            rw [y4, v4, mk1]
            constructor
            · rintro (((w | w) | w) | w)
              · exact Or.inl w
              · exact Or.inr ⟨xl, Or.inl w⟩
              · exact Or.inr ⟨xl, Or.inr (Or.inl w)⟩
              · exact Or.inr ⟨xl, Or.inr (Or.inr w)⟩
            · rintro (w | ⟨_, w | w | w⟩)
              · exact Or.inl (Or.inl (Or.inl w))
              · exact Or.inl (Or.inl (Or.inr w))
              · exact Or.inl (Or.inr w)
              · exact Or.inr w
theorem q_D_sizeOf (h : HS n L E R F Fd o rt ad S I ln z u e t g D) (hn : n.2 + 1 < 2 ^ 31) {p : Nat} (hp : p < 24) {K : Int32 → PS → Prop} (hK : ∀ (u' : PS) (S' : Nat → Nat) (I' : Nat → Nat → Nat), HS (n.1, n.2 + 1) L E R F Fd o rt ad S' I' ln z u' e t g D → (∀ s : Nat, s ≠ 11 → S' s = S s) → K (nI (wh (PR p 1) Fd o)) u') : p_D_sizeOf (ad 2) (nI p) u K := by
  obtain ⟨ns, fk, ⟨h37, h38⟩, lns, ho, h5, h6, h7, ⟨k1, k2⟩⟩ := h
  obtain ⟨a1, a2, a3, a4, a5, a6⟩ := ns
  have l38 : ln 38 = 24 := lns.2.2.2.2.2.2.2.2.2.1
  have r38 := a1.ia 38 (by decide) (ii (by decide)) (j := p) (by omega) (by omega)
  rw [h38 p hp] at r38
  unfold p_D_sizeOf
  refine ⟨_, a1.fD (by decide) rfl, _, a1.fD (by decide) rfl, _, r38, a1.obN (by decide), ?_⟩
  unfold p_N_sizeFrom
  obtain ⟨u1, s1, h1⟩ := a1.sN (by decide) 12 11 (S 11 + 1) (by decide) rfl rfl rfl rfl
  refine ⟨_, a1.fN (by decide) rfl, u1, by rw [show (1 : Int32) = nI 1 from rfl, nI_add]; exact s1, h1.obN (by decide), ?_⟩
  have up11 : va_up S 11 (S 11 + 1) 11 = S 11 + 1 := up_eq _ _ _
  have sh1 : SH R (va_up S 11 (S 11 + 1)) ln z e := a2.s (up_ne _ _ (by decide))
  have ds1 : DS e g (fun _ => False) (va_up S 11 (S 11 + 1)) I ln := a3.cong (fun _ _ _ _ _ => rfl) (up_ne _ _ (by decide)) (up_ne _ _ (by decide)) (up_ne _ _ (by decide)) (fun _ _ => rfl)
  have emp : ∀ m : Nat, ¬ MK g (va_up S 11 (S 11 + 1)) I m := fun m w => by
    have := k1 m
    have q := w.2
    rw [up11] at q
    omega
  obtain ⟨i, hi⟩ : ∃ i : Nat, g (rt p) ≠ 0 → i < 10 ∧ nk (g (rt p)) = o i ∧ 10 ≤ i + 10 := by
    by_cases q : g (rt p) = 0
    · exact ⟨0, fun w => absurd q w⟩
    · obtain ⟨i, q1, q2, _⟩ := a5.1.w q
      exact ⟨i, fun _ => ⟨q1, q2.symm, by omega⟩⟩
  refine q_unseen (D := D) (S := va_up S 11 (S 11 + 1)) a5.1 ho sh1 (by rw [up11]; omega) 10 12 (rt p) i 0 u1 I _ (by decide) (by decide) h1 ds1 (a5.2.1 p hp).1 hi (fun m => by rw [up11]; have := k1 m; omega) (fun m l hm => absurd hm (emp m)) (Cnt.zero emp) (fun u2 I2 r v1 v2 v3 v4 v5 => ?_)
  have er : wh (PR p 1) Fd o = r := a5.one ho hp (by
    rw [Nat.zero_add] at v5
    exact v5.congr (fun m => by
      rw [v4 m]
      exact ⟨fun w => w.resolve_left (emp m), Or.inr⟩))
  rw [← er]
  refine hK u2 _ I2 ⟨⟨v1, sh1, ds1.cong (fun j _ _ _ q => v2 j q) rfl rfl rfl (fun _ _ => rfl), by rw [v2 8 (by decide)]; exact a4, a5, by rw [up_ne _ _ (by decide)]; exact a6⟩, fk.same (up_ne _ _ (by decide)) (up_ne _ _ (by decide)) (v2 6 (by decide)) (fun _ _ => rfl), ⟨fun j hj => by rw [v2 37 (by decide)]; exact h37 j hj, fun q hq => by rw [v2 38 (by decide)]; exact h38 q hq⟩, lns, ho, ⟨by rw [up_ne _ _ (by decide)]; exact h5.1, fun w => (h5.2 (by rw [up_ne _ _ (by decide)] at w; exact w)).same (v2 39 (by decide))⟩, h6, by rw [up_ne _ _ (by decide), v2 25 (by decide)]; exact h7, ⟨v3, by rw [up11]; dsimp only; omega⟩⟩ (fun s hs => up_ne _ _ hs)
end SIZ
