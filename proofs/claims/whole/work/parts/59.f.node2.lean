/-! members, free numbers, a node for an input -/
section ND2
variable {ad S : Nat → Nat} {I : Nat → Nat → Nat} {ln : Nat → Nat} {L : Nat → Nat → Int64} {E : (Nat → Prop) × (Nat → Option PE)} {z R : Nat × Nat} {u : PS} {e : Nat}
theorem VC.ext (h : VC 69 ad S I ln L E z u) {ad' : Nat → Nat} {I' : Nat → Nat → Nat} {ln' : Nat → Nat} (hh : ∀ i : Nat, i < 69 → ad' i = ad i ∧ I' i = I i ∧ ln' i = ln i) : VC 69 ad' S I' ln' L E z u := by
  obtain ⟨h1, h2, h3, h4, h5⟩ := h
  refine ⟨fun i hi => ?_, fun i j hi hj q => h2 i j hi hj (by rw [← (hh i hi).1, ← (hh j hj).1]; exact q), fun i hi => by rw [(hh i hi).1]; exact h3 i hi, h4, h5⟩
  rw [(hh i hi).1, h1 i hi]
  congr 1
  unfold cS
  rw [(hh i hi).2.1, (hh i hi).2.2, cR_ad (ad := ad) (ad' := ad') (fun m a b => (hh m (by omega)).1), cM_ad (ad := ad) (ad' := ad') (fun m a b => (hh m (by omega)).1)]
  by_cases d : i < 6
  · rw [if_pos d, if_pos d, cO_ad (ad := ad) (ad' := ad') S (fun m hm => (hh m (by omega)).1) i d]
  · rw [if_neg d, if_neg d]
theorem gs_m (ln : Nat → Nat) {k : Nat} (hk : k < 10) (v : Nat) : gs (va_up ln (14 + k) v) + ln (14 + k) = gs ln + v := by
  rcases (by omega : k = 0 ∨ k = 1 ∨ k = 2 ∨ k = 3 ∨ k = 4 ∨ k = 5 ∨ k = 6 ∨ k = 7 ∨ k = 8 ∨ k = 9) with rfl | rfl | rfl | rfl | rfl | rfl | rfl | rfl | rfl | rfl <;> simp [gs, va_up] <;> omega
theorem q_N_enlist_J (h : VC 69 ad S I ln L E z u) (sh : SH R S ln z e) {m k c : Nat} (hm : m < 2 ^ e) (hk : k < 10) (hc : c < ln (14 + k)) {Q : PS → Prop} (hQ : ∀ u' : PS, VC 69 ad S (va_up (va_up (va_up I (14 + k) (va_up (I (14 + k)) c m)) 10 (va_up (I 10) m c)) 9 (va_up (I 9) k (c + 1))) ln L E z u' → Q u') : p_N_enlist_J47 Q (ad 4) (nI m) (nI k) (nI c) u := by
  have l1 := sh.2.2.2.2.1 k hk
  have l9 : ln 9 = 10 := sh.2.2.1.2.2.1
  unfold p_N_enlist_J47
  refine ⟨_, h.fN (by decide) rfl, _, h.rm (by decide) hk, ?_⟩
  obtain ⟨u1, s1, h1⟩ := h.isx (14 + k) (by omega) (ii (by omega)) hc (by omega) m
  refine ⟨u1, s1, _, h1.fN (by decide) rfl, ?_⟩
  obtain ⟨u2, s2, h2⟩ := h1.nis sh 10 n10 hm c
  refine ⟨u2, s2, _, h2.fN (by decide) rfl, ?_⟩
  obtain ⟨u3, s3, h3⟩ := h2.isx 9 (by decide) (ii (by decide)) (j := k) (by omega) (by omega) (c + 1)
  rw [nI_1]
  refine ⟨u3, s3, hQ u3 ?_⟩
  rw [up_ne (va_up I (14 + k) _) _ (show (9 : Nat) ≠ 10 by decide), up_ne I _ (show (9 : Nat) ≠ 14 + k by omega), up_ne I _ (show (10 : Nat) ≠ 14 + k by omega)] at h3
  exact h3
theorem q_N_enlist (h : VC 69 ad S I ln L E z u) (sh : SH R S ln z e) {m k : Nat} (hm : m < 2 ^ e) (hk : k < 10) (hc : I 9 k ≤ ln (14 + k)) (hc2 : I 9 k ≤ 16384) {Q : PS → Prop} (hQ : ∀ (u' : PS) (ad' ln' : Nat → Nat) (z' : Nat × Nat) (row : Nat → Nat), VC 69 ad' S (va_up (va_up (va_up I (14 + k) row) 10 (va_up (I 10) m (I 9 k))) 9 (va_up (I 9) k (I 9 k + 1))) ln' L E z' u' → (∀ j : Nat, j < I 9 k → row j = I (14 + k) j) → row (I 9 k) = m → (∀ i : Nat, ¬ (14 ≤ i ∧ i < 24) → ad' i = ad i ∧ ln' i = ln i) → SH R S ln' z' e → I 9 k + 1 ≤ ln' (14 + k) → (∀ l : Nat, l < 10 → l ≠ k → ln' (14 + l) = ln (14 + l)) → Q u') : p_N_enlist (ad 4) (nI m) (nI k) u Q := by
  have l1 := sh.2.2.2.2.1 k hk
  have l9 : ln 9 = 10 := sh.2.2.1.2.2.1
  unfold p_N_enlist
  refine ⟨_, h.fN (by decide) rfl, _, h.ia 9 (by decide) (ii (by decide)) (j := k) (by omega) (by omega), _, h.fN (by decide) rfl, _, h.rm (by decide) hk, _, h.an (14 + k) (by omega) (ii (by omega)), pk_lt (I 9 k) (ln (14 + k)) (fun a => ?_) (fun a => ?_)⟩
  · refine q_N_enlist_J h sh hm hk a (fun u' h' => hQ u' ad ln z (va_up (I (14 + k)) (I 9 k) m) h' (fun j hj => up_ne _ _ (by omega)) (up_eq _ _ _) (fun i _ => ⟨rfl, rfl⟩) sh (by omega) (fun _ _ _ => rfl))
  · have ec : I 9 k = ln (14 + k) := by omega
    obtain ⟨u1, s1, h1⟩ := h.new (2 * I 9 k) (by omega)
    have x1 : (2 : Int32) * nI (I 9 k) = nI (2 * I 9 k) := pk_mul 2 _
    rw [x1]
    refine ⟨z.1, u1, s1, ad 68, h1.fN (by decide) rfl, ad (14 + k), ?_, ?_⟩
    · have := h1.rm (by decide) hk
      rw [up_ne ad _ (show (14 + k : Nat) ≠ 69 by omega)] at this
      exact this
    · obtain ⟨u2, s2, h2⟩ := h1.cpx (i := 14 + k) (j := 69) (s := 0) (d := 0) (m := I 9 k) (by omega) (ii (by omega)) (by omega) (Or.inr (by omega)) (by rw [up_ne ln _ (show (14 + k : Nat) ≠ 69 by omega)]; omega) (by rw [up_eq]; omega) (by rw [up_ne ln _ (show (14 + k : Nat) ≠ 69 by omega)]; omega) (by rw [up_eq]; omega)
      rw [up_ne ad _ (show (14 + k : Nat) ≠ 69 by omega), up_eq] at s2
      refine ⟨u2, s2, ad 68, h2.fN (by decide) rfl, ?_⟩
      obtain ⟨u3, s3, h3⟩ := h2.renM hk
      rw [up_eq] at s3
      refine ⟨u3, s3, ?_⟩
      rw [up_eq, up_eq, up_eq, up_eq, up_ne I _ (show (14 + k : Nat) ≠ 69 by omega)] at h3
      have h4 := h3.ext (ad' := va_up ad (14 + k) z.1) (I' := va_up I (14 + k) (va_cpy (I (14 + k)) (fun _ => 0) 0 0 (I 9 k))) (ln' := va_up ln (14 + k) (2 * I 9 k)) (fun i hi => by
        by_cases q : i = 14 + k
        · subst q; rw [up_eq, up_eq, up_eq, up_eq, up_eq, up_eq]; exact ⟨rfl, rfl, rfl⟩
        · rw [up_ne _ _ q, up_ne _ _ q, up_ne _ _ q, up_ne _ _ q, up_ne _ _ q, up_ne _ _ q, up_ne _ _ (show i ≠ 69 by omega), up_ne _ _ (show i ≠ 69 by omega), up_ne _ _ (show i ≠ 69 by omega), up_ne _ _ (show i ≠ 69 by omega)]
          exact ⟨rfl, rfl, rfl⟩)
      have sh2 : SH R S (va_up ln (14 + k) (2 * I 9 k)) (z.1 + 1, z.2 + 2 * I 9 k) e := by
        obtain ⟨a1, a2, ⟨b1, b2, b3, b4, b5, b6, b7⟩, a4, a5, a6, a7⟩ := sh
        have ne : ∀ i : Nat, i < 14 → va_up ln (14 + k) (2 * I 9 k) i = ln i := fun i hi => up_ne _ _ (by omega)
        have g1 := gs_m ln hk (2 * I 9 k)
        refine ⟨a1, a2, ⟨by rw [ne 7 (by omega)]; exact b1, by rw [ne 8 (by omega)]; exact b2, by rw [ne 9 (by omega)]; exact b3, by rw [ne 10 (by omega)]; exact b4, by rw [ne 11 (by omega)]; exact b5, by rw [ne 12 (by omega)]; exact b6, by rw [ne 13 (by omega)]; exact b7⟩, a4, fun l hl => ?_, ?_, ?_⟩
        · by_cases q : l = k
          · subst q; rw [up_eq]; omega
          · rw [up_ne _ _ (by omega)]; exact a5 l hl
        · show z.1 + 1 ≤ _; omega
        · show z.2 + 2 * I 9 k ≤ _; omega
      have e4 : ad 4 = va_up ad (14 + k) z.1 4 := (up_ne _ _ (by omega)).symm
      rw [e4]
      refine q_N_enlist_J h4 sh2 hm hk (c := I 9 k) (by rw [up_eq]; omega) (fun u' h' => ?_)
      rw [up_eq, bx_uu, up_ne I _ (show (10 : Nat) ≠ 14 + k by omega), up_ne I _ (show (9 : Nat) ≠ 14 + k by omega)] at h'
      refine hQ u' _ _ _ _ h' (fun j hj => ?_) (up_eq _ _ _) (fun i hi => ⟨up_ne _ _ (by omega), up_ne _ _ (by omega)⟩) sh2 (by rw [up_eq]; omega) (fun l _ hne => up_ne _ _ (by omega))
      rw [up_ne _ _ (by omega)]
      unfold va_cpy
      rw [if_pos (by omega)]
      congr 1
      omega
/-- the nodes' rows hold the store g; those of T are on their way -/
def DS (e : Nat) (g : Nat → Nat) (T : Nat → Prop) (S : Nat → Nat) (I : Nat → Nat → Nat) (ln : Nat → Nat) : Prop :=
  (∀ n : Nat, 2 ≤ n → n < S 9 → I 7 n = g n) ∧ (I 7 0 = 2684354560 ∧ I 7 1 = 2684354560) ∧ (∀ n : Nat, g n ≠ 0 → 2 ≤ n ∧ n < S 9 ∧ g n < 2 ^ 32) ∧ S 9 ≤ 2 ^ e ∧
  HT e (I 11) (I 12) (fun n => g n ≠ 0 ∧ ¬ T n) g ∧ FRL (I 11) (S 8) (S 9) (S 10) g ∧ MBR (fun k => I (14 + k)) (I 9) (I 10) (fun n => g n ≠ 0 ∧ ¬ T n) g ∧ ∀ k : Nat, k < 10 → I 9 k ≤ ln (14 + k)
theorem DS.kf {g : Nat → Nat} {T : Nat → Prop} (h : DS e g T S I ln) : KF e (I 7) (fun n => g n ≠ 0 ∧ ¬ T n) g := by
  obtain ⟨a1, a2, a3, a4, _⟩ := h
  intro n hn
  obtain ⟨b1, b2, b3⟩ := a3 n hn.1
  exact ⟨b1, by omega, a1 n b1 b2, b3⟩
theorem nodup_len2 {l : List Nat} {N : Nat} (h : l.Nodup) (h2 : 2 ≤ N) (hb : ∀ n : Nat, n ∈ l → 2 ≤ n ∧ n < N) : l.length + 2 ≤ N := by
  have : l.length ≤ N - 2 := (nodup_cnt l h).mono (Q := fun n => 2 ≤ n ∧ n < N) ⟨fun i => i + 2, fun i j _ _ e => by dsimp only at e; omega, fun i hi => by dsimp only; omega, fun x hx => ⟨x - 2, by omega, by dsimp only; omega⟩⟩ hb
  omega
theorem MBR.le {mb : Nat → Nat → Nat} {as ma : Nat → Nat} {K : Nat → Prop} {g : Nat → Nat} {N : Nat} (h : MBR mb as ma K g) (hK : ∀ n : Nat, K n → n < N) {k : Nat} (hk : k < 10) : as k ≤ N := by
  refine Cnt.le_of_inj (P := fun i => i < as k) (Q := fun i => i < N) ⟨fun i => i, fun _ _ _ _ e => e, fun i hi => hi, fun x hx => ⟨x, hx, rfl⟩⟩ ⟨fun i => i, fun _ _ _ _ e => e, fun i hi => hi, fun x hx => ⟨x, hx, rfl⟩⟩ (mb k) (fun i hi => hK _ (h.1 k i hk hi).1) (fun i j hi hj e => ?_)
  have a := (h.1 k i hk hi).2.2
  have b := (h.1 k j hk hj).2.2
  rw [← a, e, b]
end ND2
