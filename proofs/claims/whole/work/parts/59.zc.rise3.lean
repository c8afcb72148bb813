/-! rising by trial: riseAbove() -/
/-- between two steps: x stands behind the first c of r -/
def RKS (e f0 : Nat) (g rt o r : Nat → Nat) (x c : Nat) (F : Nat → Nat → Bool) (D0 : Nat → Fn) (gt gg : Nat → Nat) (D : Nat → Fn) (N A : Nat) (S : Nat → Nat) (I : Nat → Nat → Nat) (ln : Nat → Nat) : Prop :=
  TM e f0 g gt S I ln ∧ CAN (Wo o) gt D ∧ ST (insO r c x) F gg D rt ∧ (∀ n : Nat, gg n ≠ 0 → gt n ≠ 0) ∧ (∀ n : Nat, gt n ≠ 0 → gg n = gt n ∨ I 25 n = S 14) ∧ (∀ n : Nat, gg n ≠ 0 → (I 25 n = S 14 ↔ nk (gg n) = x)) ∧ (∀ n : Nat, n < 2 ∨ f0 ≤ n → I 25 n ≠ S 14) ∧ (∀ n : Nat, gg n ≠ 0 → nk (gg n) = x → n0 (I 26 n) = n0 (gg n) ∧ n1 (I 26 n) = n1 (gg n) ∧ I 26 n < 2 ^ 32) ∧ (∀ n : Nat, gg n ≠ 0 → (nk (gg n) = x ∨ ∃ j : Nat, j < c ∧ nk (gg n) = r j) → I 24 n = rf gg n + rr rt n) ∧ (∀ n : Nat, gt n ≠ 0 → ¬ dep (D n) x → gg n = gt n) ∧ (S 14 < 2 ^ 31 ∧ ∀ n : Nat, I 25 n ≤ S 14) ∧ (∀ m : Nat, IN g m → D m = D0 m) ∧ Cnt (fun m => gg m ≠ 0) N ∧ Cnt (fun m => gg m ≠ 0 ∧ nk (gg m) = x) A ∧ S 13 = A
section RS3
variable {ad S : Nat → Nat} {I : Nat → Nat → Nat} {ln : Nat → Nat} {L : Nat → Nat → Int64} {E : (Nat → Prop) × (Nat → Option PE)} {z R : Nat × Nat} {u : PS} {e f0 : Nat} {g gt gg rt : Nat → Nat} {D D0 : Nat → Fn} {o r : Nat → Nat} {x i N A : Nat} {F : Nat → Nat → Bool}
theorem q_T_rise_L {S0 : Nat → Nat} {I0 : Nat → Nat → Nat} (sh0 : SH R S0 ln z e) (ts : TSH ln e) (ho : PO o) (hr : PR9 r x) (hx10 : x < 10) (hi9 : i < 9) (hio : o i = r i) (hro : ∀ j : Nat, j < i → o j = r j) {bf N0 cnt : Nat} {row : Nat → Nat} (hcnt : cnt = I0 9 (r i)) (hrow : row = I0 (14 + r i))
    {X : Int32 → PS → Prop} (hX : ∀ (u' : PS) (S' : Nat → Nat) (I' : Nat → Nat → Nat) (gt' gg' : Nat → Nat) (D' : Nat → Fn) (gone N A : Nat), VC 69 ad S' I' ln L E z u' → MRI e f0 g rt o r x i gt' gg' D' (fun _ => False) (fun _ => 0) S' I' ln → (∀ m : Nat, gg' m ≠ 0 → LED gg' rt m) → (∀ p : Nat, p < 24 → IN gg' (rt p) ∧ D' (rt p) = fnOf (F p)) → (∀ m : Nat, IN g m → D' m = D0 m) → Cnt (fun m => gg' m ≠ 0) N → Cnt (fun m => gg' m ≠ 0 ∧ nk (gg' m) = x) A → N + gone = N0 + (S' 9 - bf) → A + gone = S' 13 → bf ≤ S' 9 → FR2 S0 I0 S' I' → S' 9 ≤ bf + 2 * cnt → X (nI gone) u') :
    ∀ (d j gone : Nat) (u : PS) (S : Nat → Nat) (I : Nat → Nat → Nat) (gt gg : Nat → Nat) (D : Nat → Fn) (N A : Nat), j + d = cnt → VC 69 ad S I ln L E z u → MRI e f0 g rt o r x i gt gg D (fun m => ∃ a : Nat, j ≤ a ∧ a < cnt ∧ row a = m ∧ dep (D0 m) x) (fun _ => 0) S I ln → (∀ m : Nat, gg m ≠ 0 → LED gg rt m) → (∀ p : Nat, p < 24 → IN gg (rt p) ∧ D (rt p) = fnOf (F p)) → (∀ m : Nat, IN g m → D m = D0 m) → Cnt (fun m => gg m ≠ 0) N → Cnt (fun m => gg m ≠ 0 ∧ nk (gg m) = x) A → N + gone = N0 + (S 9 - bf) → A + gone = S 13 → bf ≤ S 9 → FR2 S0 I0 S I → S 9 + 2 * d ≤ 2 ^ e → S 9 ≤ bf + 2 * j → p_T_riseAbove_L86 (ad 5) (nI (r i)) (ad 7) (ad (14 + r i)) (ad 25) (nI (S0 14)) (nI cnt) (nI bf) X (d + 1) (nI gone) (nI j) u := by
  have hle := sh0.le
  have hy10 : r i < 10 := (hr.1 i hi9).1
  have hxy : r i ≠ x := (hr.1 i hi9).2
  have hs : SW (insO r (i + 1) x) (insO r i x) i := (ins_sw r x hi9).symm
  have hoc : PO (insO r (i + 1) x) := insO_PO hr hx10 (by omega)
  have ey : insO r (i + 1) x i = r i := ins_lt r x (by omega)
  have ex : insO r (i + 1) x (i + 1) = x := insO_at r (i + 1) x
  have lx := sh0.2.2.2.2.1 (r i) hy10
  intro d
  induction d with
  | zero =>
    intro j gone u S I gt gg D N A hj h ms hL hrt hD0 hN hA eN eA hbf hft _ hb2
    obtain rfl : j = cnt := by omega
    have c9 : j ≤ 16384 := by
      obtain ⟨tm, _⟩ := ms
      have q : I 9 = I0 9 := hft.1 9 (by decide) (by decide) (by decide) (by decide) (by decide) (by decide)
      have := MBR.le tm.2.2.2.2.2.2.2.2.2.2.1 (N := 16384) (fun n hn => by have := tm.2.2.1 n hn.1; have := tm.2.2.2.1; omega) hy10
      rw [q] at this
      omega
    rw [p_T_riseAbove_L86]
    refine pk_le j j (fun _ => hX u S I gt gg D gone N A h ?_ hL hrt hD0 hN hA eN eA hbf hft hb2) (fun w => absurd w (by omega))
    have eT : (fun m => ∃ a : Nat, j ≤ a ∧ a < j ∧ row a = m ∧ dep (D0 m) x) = fun _ => False := by
      funext m
      exact propext ⟨fun ⟨a, q1, q2, _⟩ => by omega, fun w => absurd w (fun q => q)⟩
    rw [eT] at ms
    exact ms
  | succ d ih =>
    intro j gone u S I gt gg D N A hj h ms hL hrt hD0 hN hA eN eA hbf hft hroom hb2
    have sh : SH R S ln z e := sh0.s (hft.2.1 7 (by decide) (by decide))
    obtain ⟨tm, hct, hcg, hT, k1, k2, k3, k3', k4, k5, k6, k7⟩ := id ms
    obtain ⟨d1, d2, d3, ⟨d4, d5, d6⟩, d7, d8, d9, d10, d11, d12, d13, d14⟩ := id tm
    have q9 : I 9 = I0 9 := hft.1 9 (by decide) (by decide) (by decide) (by decide) (by decide) (by decide)
    have qk : I (14 + r i) = row := by rw [hrow]; exact hft.1 _ (by omega) (by omega) (by omega) (by omega) (by omega) (by omega)
    have q14 : S 14 = S0 14 := hft.2.1 14 (by decide) (by decide)
    have c9 : cnt ≤ 16384 := by
      have := MBR.le d13 (N := 16384) (fun n hn => by have := d3 n hn.1; omega) hy10
      rw [q9] at this
      omega
    have lc := d14 (r i) hy10
    rw [q9, ← hcnt] at lc
    rw [p_T_riseAbove_L86]
    refine pk_le cnt j (fun w => absurd w (by omega)) (fun _ => ?_)
    obtain ⟨m1, m2, m3⟩ := d13.1 (r i) j hy10 (by rw [q9]; omega)
    dsimp only at m1 m2 m3
    rw [qk] at m1 m2 m3
    have rx := h.ia (14 + r i) (by omega) (ii (by omega)) (j := j) (by omega) (by omega)
    rw [qk] at rx
    generalize hn : row j = n at m1 m2 m3 rx
    have hgn := m1.1
    have w3 := d3 n hgn
    have gtn : gt n = g n := d10 n w3.2.1
    have hgt : gt n ≠ 0 := by rw [gtn]; exact hgn
    have Dn : D n = D0 n := hD0 n (Or.inr hgn)
    have hgg : gg n = gt n := by
      by_cases c : dep (D n) x
      · have hTn : ∃ a : Nat, j ≤ a ∧ a < cnt ∧ row a = n ∧ dep (D0 n) x := ⟨j, Nat.le_refl _, by omega, hn, by rw [← Dn]; exact c⟩
        obtain ⟨q1, q2, _⟩ := hT.1 n hTn
        rcases k2 n hgt with w | w
        · exact w
        · have := (k3 n q1).mp w
          rw [q2, ey] at this
          exact absurd this hxy
      · exact k6 n hgt c
    have hg : gg n ≠ 0 := by rw [hgg]; exact hgt
    have hk : nk (gg n) = r i := by rw [hgg, gtn]; exact m2
    have inT : ∀ q : Nat, IN gg q → IN gt q := fun q hq => by
      rcases hq with w | w
      · exact Or.inl w
      · exact Or.inr (k1 q w)
    obtain ⟨t7, t32, tl⟩ := tm.cg (Or.inr hgt)
    rw [cg_lt w3.1, ← hgg] at t7 t32
    have r7 := h.nia sh 7 n7 (j := n) (by omega)
    rw [t7] at r7
    have i0 := hcg.i0 hg
    have i1 := hcg.i1 hg
    have z0 := (tm.cg (inT _ i0)).2.2
    have z1 := (tm.cg (inT _ i1)).2.2
    have mk : ∀ s : Nat, IN gg s → (I 25 s = S 14 ↔ kd gg s = x) := fun s hs2 => by
      by_cases c : s < 2
      · have e1 : kd gg s = 10 := if_pos c
        rw [e1]
        exact ⟨fun w => absurd w (k3' s (Or.inl c)), fun w => by omega⟩
      · have hl := hs2.resolve_left c
        rw [kd_of hcg hl]
        exact k3 s hl
    have by1 := before_y hs hoc hcg hg (by rw [ey]; exact hk)
    rw [ex] at by1
    have rz := h.tia ts hle 25 t25 (j := n0 (gg n)) (by omega)
    have ro := h.tia ts hle 25 t25 (j := n1 (gg n)) (by omega)
    have k7z := k7.2 (n0 (gg n))
    have k7o := k7.2 (n1 (gg n))
    have k71 := k7.1
    have rinj : ∀ a b : Nat, a < cnt → b < cnt → row a = row b → a = b := fun a b ha hb hab => by
      have p1 := (d13.1 (r i) a hy10 (by rw [q9]; omega)).2.2
      have p2 := (d13.1 (r i) b hy10 (by rw [q9]; omega)).2.2
      dsimp only at p1 p2
      rw [qk] at p1 p2
      rw [← p1, hab, p2]
    -- the next one
    have skip : (bz bo : Bool) → ¬ dep (D n) x → p_T_riseAbove_J356 (p_T_riseAbove_L86 (ad 5) (nI (r i)) (ad 7) (ad (14 + r i)) (ad 25) (nI (S0 14)) (nI cnt) (nI bf) X (d + 1)) X (ad 5) (nI (r i)) (ad 7) (ad (14 + r i)) (ad 25) (nI (S0 14)) (nI cnt) (nI bf) (nI gone) (nI j) u := fun _ _ hnd => by
      unfold p_T_riseAbove_J356
      refine nm_e ?_
      rw [nI_1]
      have eT : (fun m => ∃ a : Nat, j ≤ a ∧ a < cnt ∧ row a = m ∧ dep (D0 m) x) = fun m => ∃ a : Nat, j + 1 ≤ a ∧ a < cnt ∧ row a = m ∧ dep (D0 m) x := by
        funext m
        refine propext ⟨fun ⟨a, q1, q2, q3, q4⟩ => ⟨a, ?_, q2, q3, q4⟩, fun ⟨a, q1, q2, q3, q4⟩ => ⟨a, by omega, q2, q3, q4⟩⟩
        by_cases c : a = j
        · subst c
          rw [hn] at q3
          rw [← q3, ← Dn] at q4
          exact absurd q4 hnd
        · omega
      rw [eT] at ms
      exact ih (j + 1) gone u S I gt gg D N A (by omega) h ms hL hrt hD0 hN hA eN eA hbf hft (by omega) (by omega)
    have turn : ∀ bz bo : Bool, (bz = true ↔ kd gg (n0 (gg n)) = x) → (bo = true ↔ kd gg (n1 (gg n)) = x) → dep (D n) x → p_T_riseAbove_J166 (p_T_riseAbove_L86 (ad 5) (nI (r i)) (ad 7) (ad (14 + r i)) (ad 25) (nI (S0 14)) (nI cnt) (nI bf) X (d + 1)) X (ad 5) (nI (r i)) (ad 7) (ad (14 + r i)) (ad 25) (nI (S0 14)) (nI cnt) (nI bf) (nI gone) (nI j) (nI n) (nI (n0 (gg n))) (nI (n1 (gg n))) (bI bz) (bI bo) u := fun bz bo hbz hbo hdn => by
      have hTn : ∃ a : Nat, j ≤ a ∧ a < cnt ∧ row a = n ∧ dep (D0 n) x := ⟨j, Nat.le_refl _, by omega, hn, by rw [← Dn]; exact hdn⟩
      rw [← q14]
      refine q_T_rstep (T := fun m => ∃ a : Nat, j ≤ a ∧ a < cnt ∧ row a = m ∧ dep (D0 m) x) h sh ts ho hr hx10 hi9 hio hro ms hL (n := n) hTn w3.2.1 hN hA (by omega) hbz hbo (fun u' S' I' gt' gg' D' gone' N' A' v1 v2 v3 v4 v5 v6 v7 v8 v9 v10 v11 v12 v13 => ?_)
      unfold p_T_riseAbove_J356
      refine nm_e ?_
      rw [nI_1, q14]
      have eT : (fun m => (∃ a : Nat, j ≤ a ∧ a < cnt ∧ row a = m ∧ dep (D0 m) x) ∧ m ≠ n) = fun m => ∃ a : Nat, j + 1 ≤ a ∧ a < cnt ∧ row a = m ∧ dep (D0 m) x := by
        funext m
        refine propext ⟨fun ⟨⟨a, q1, q2, q3, q4⟩, q5⟩ => ⟨a, ?_, q2, q3, q4⟩, fun ⟨a, q1, q2, q3, q4⟩ => ⟨⟨a, by omega, q2, q3, q4⟩, fun w => ?_⟩⟩
        · by_cases c : a = j
          · subst c
            rw [hn] at q3
            exact absurd q3.symm q5
          · omega
        · rw [w, ← hn] at q3
          have := rinj a j q2 (by omega) q3
          omega
      rw [eT] at v2
      have v122 := v12.2.2
      refine ih (j + 1) gone' u' S' I' gt' gg' D' N' A' (by omega) v1 v2 v3 (fun p hp => ?_) (fun m hm => ?_) v6 v7 (by omega) (by omega) (by omega) (hft.tr v12) (by omega) (by omega)
      · have q := v4 p hp (hrt p hp).1
        exact ⟨q.1, by rw [q.2]; exact (hrt p hp).2⟩
      · rw [(v5 m (tm.ing hm)).1]; exact hD0 m hm
    -- the walk
    have J154 : ∀ bz bo : Bool, (bz = true ↔ kd gg (n0 (gg n)) = x) → (bo = true ↔ kd gg (n1 (gg n)) = x) → p_T_riseAbove_J154 (p_T_riseAbove_L86 (ad 5) (nI (r i)) (ad 7) (ad (14 + r i)) (ad 25) (nI (S0 14)) (nI cnt) (nI bf) X (d + 1)) X (ad 5) (nI (r i)) (ad 7) (ad (14 + r i)) (ad 25) (nI (S0 14)) (nI cnt) (nI bf) (nI gone) (nI j) (nI n) (nI (n0 (gg n))) (nI (n1 (gg n))) (bI bz) (bI bo) u := fun bz bo hbz hbo => by
      unfold p_T_riseAbove_J154
      cases bz
      · refine ⟨fun w => absurd rfl w, fun _ => ?_⟩
        cases bo
        · refine ⟨fun _ => skip false false (fun w => ?_), fun w => absurd rfl w⟩
          rcases by1.mpr w with w2 | w2
          · exact absurd (hbo.mpr w2) (by decide)
          · exact absurd (hbz.mpr w2) (by decide)
        · exact ⟨fun w => absurd w (by decide), fun _ => turn false true hbz hbo (by1.mp (Or.inl (hbo.mp rfl)))⟩
      · exact ⟨fun _ => turn true bo hbz hbo (by1.mp (Or.inr (hbz.mp rfl))), fun w => absurd w (by decide)⟩
    have J137 : ∀ bz : Bool, (bz = true ↔ kd gg (n0 (gg n)) = x) → p_T_riseAbove_J137 (p_T_riseAbove_L86 (ad 5) (nI (r i)) (ad 7) (ad (14 + r i)) (ad 25) (nI (S0 14)) (nI cnt) (nI bf) X (d + 1)) X (ad 5) (nI (r i)) (ad 7) (ad (14 + r i)) (ad 25) (nI (S0 14)) (nI cnt) (nI bf) (nI gone) (nI j) (nI n) (nI (n0 (gg n))) (nI (n1 (gg n))) (bI bz) u := fun bz hbz => by
      unfold p_T_riseAbove_J137
      refine ⟨_, ro, ?_⟩
      rw [← q14]
      refine eqn' (by omega) (by omega) (fun w => ?_) (fun w => ?_)
      · rw [q14]
        exact J154 bz true hbz ⟨fun _ => (mk _ i1).mp w, fun _ => rfl⟩
      · rw [q14]
        exact J154 bz false hbz ⟨fun q => absurd q (by decide), fun q => absurd ((mk _ i1).mpr q) w⟩
    refine ⟨_, rx, _, r7, nm_e ?_⟩
    rw [nI_n0 t32]
    refine ⟨_, r7, nm_e ?_⟩
    rw [nI_n1]
    refine ⟨_, rz, ?_⟩
    rw [← q14]
    refine eqn' (by omega) (by omega) (fun w => ?_) (fun w => ?_)
    · rw [q14]
      exact J137 true ⟨fun _ => (mk _ i0).mp w, fun _ => rfl⟩
    · rw [q14]
      exact J137 false ⟨fun q => absurd q (by decide), fun q => absurd ((mk _ i0).mpr q) w⟩
end RS3
