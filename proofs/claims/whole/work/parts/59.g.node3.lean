/-! a node goes, a node comes -/
def FN (S : Nat → Nat) (I : Nat → Nat → Nat) (S' : Nat → Nat) (I' : Nat → Nat → Nat) : Prop := (∀ i : Nat, i < 7 ∨ 24 ≤ i → I' i = I i) ∧ (∀ s : Nat, s ≠ 8 → s ≠ 9 → s ≠ 10 → S' s = S s) ∧ I' 13 = I 13
theorem FN.rf (S : Nat → Nat) (I : Nat → Nat → Nat) : FN S I S I := ⟨fun _ _ => rfl, fun _ _ _ _ => rfl, rfl⟩
theorem FN.tr {S S' S'' : Nat → Nat} {I I' I'' : Nat → Nat → Nat} (h : FN S I S' I') (k : FN S' I' S'' I'') : FN S I S'' I'' := ⟨fun i hi => (k.1 i hi).trans (h.1 i hi), fun s a b c => (k.2.1 s a b c).trans (h.2.1 s a b c), k.2.2.trans h.2.2⟩
section ND3
variable {ad S : Nat → Nat} {I : Nat → Nat → Nat} {ln : Nat → Nat} {L : Nat → Nat → Int64} {E : (Nat → Prop) × (Nat → Option PE)} {z R : Nat × Nat} {u : PS} {e : Nat} {g : Nat → Nat} {T : Nat → Prop}
theorem FRL.push {nx nx' : Nat → Nat} {free fresh size : Nat} (h : FRL nx free fresh size g) {n : Nat} (hn : g n ≠ 0) (h2 : 2 ≤ n) (hf : n < fresh) (hx : ∀ m : Nat, g m = 0 → m ≠ n → nx' m = nx m) (hxn : nx' n = free) : FRL nx' n fresh (size - 1) (va_up g n 0) ∧ 0 < size := by
  obtain ⟨l, l1, l2, l3, l4⟩ := h
  have nl : n ∉ l := fun q => hn ((l3 n).mp q).2.2
  have hd : (n :: l).Nodup := List.nodup_cons.mpr ⟨nl, l2⟩
  have hs : 0 < size := by
    have := nodup_len2 (N := fresh) hd (by omega) (fun m hm => by
      rcases List.mem_cons.mp hm with rfl | hm
      · exact ⟨h2, hf⟩
      · have := (l3 m).mp hm; exact ⟨this.1, this.2.1⟩)
    rw [List.length_cons] at this
    omega
  refine ⟨⟨n :: l, ⟨rfl, by omega, ?_⟩, hd, fun m => ?_, by rw [List.length_cons]; omega⟩, hs⟩
  · rw [hxn]
    exact chn_congr l _ (fun a ha => hx a ((l3 a).mp ha).2.2 (fun q => nl (q ▸ ha))) l1
  · rw [List.mem_cons, l3 m]
    by_cases c : m = n
    · subst c; rw [up_eq]; exact ⟨fun _ => ⟨h2, hf, rfl⟩, fun _ => Or.inl rfl⟩
    · rw [up_ne _ _ c]; exact ⟨fun q => q.resolve_left c, fun q => Or.inr q⟩
theorem q_N_forget (h : VC 69 ad S I ln L E z u) (sh : SH R S ln z e) (ds : DS e g T S I ln) {n : Nat} (hn : g n ≠ 0) (hT : ¬ T n) {Q : PS → Prop} (hQ : ∀ (u' : PS) (S' : Nat → Nat) (I' : Nat → Nat → Nat), VC 69 ad S' I' ln L E z u' → DS e (va_up g n 0) T S' I' ln → FN S I S' I' → I' 8 = I 8 → I' 9 = va_up (I 9) (nk (g n)) (I 9 (nk (g n)) - 1) → S' 9 = S 9 → S' 10 + 1 = S 10 → (∀ m : Nat, T m → g m ≠ 0 → I' 11 m = I 11 m) → Q u') : p_N_forget (ad 4) (nI n) u Q := by
  have ds0 := ds
  obtain ⟨d1, d2, d3, d4, d5, d6, d7, d8⟩ := ds
  obtain ⟨f1, f2, f3⟩ := d3 n hn
  have hle := sh.le
  have l9 : ln 9 = 10 := sh.2.2.1.2.2.1
  have hne : n < 2 ^ e := by omega
  obtain ⟨m1, m2, m3⟩ := d7.2 n ⟨hn, hT⟩
  generalize hk : nk (g n) = k at m1 m2 m3
  have lk := sh.2.2.2.2.1 k m1
  have lc := d8 k m1
  have lst := d7.1 k (I 9 k - 1) m1 (by omega)
  dsimp only at lst m3
  have lst3 := d3 _ lst.1.1
  unfold p_N_forget
  refine ⟨h.obN (by decide), q_N_unlink h sh d5 ds0.kf ⟨hn, hT⟩ (fun u1 nx hd h1 ht hx => ?_)⟩
  have g7 : va_up (va_up I 11 nx) 12 hd 7 = I 7 := rfl
  have g9 : va_up (va_up I 11 nx) 12 hd 9 = I 9 := rfl
  have g10 : va_up (va_up I 11 nx) 12 hd 10 = I 10 := rfl
  have gk : va_up (va_up I 11 nx) 12 hd (14 + k) = I (14 + k) := by rw [up_ne _ _ (by omega), up_ne _ _ (by omega)]
  have r7 := h1.nia sh 7 n7 hne
  rw [g7, d1 n f1 f2] at r7
  refine ⟨_, h1.fN (by decide) rfl, _, r7, nm_e ?_⟩
  rw [nI_nk f3, hk]
  have r9 := h1.ia 9 (by decide) (ii (by decide)) (j := k) (by omega) (by omega)
  rw [g9] at r9
  refine ⟨_, h1.fN (by decide) rfl, _, r9, nm_e ?_⟩
  rw [show (1 : Int32) = nI 1 from rfl, pk_sub (show 1 ≤ I 9 k by omega)]
  have rl := h1.ia (14 + k) (by omega) (ii (by omega)) (j := I 9 k - 1) (by omega) (by omega)
  rw [gk] at rl
  refine ⟨_, h1.fN (by decide) rfl, _, h1.rm (by decide) m1, _, rl, _, h1.fN (by decide) rfl, _, h1.rm (by decide) m1, _, h1.fN (by decide) rfl, ?_⟩
  have ra := h1.nia sh 10 n10 hne
  rw [g10] at ra
  refine ⟨_, ra, ?_⟩
  obtain ⟨u2, s2, h2⟩ := h1.isx (14 + k) (by omega) (ii (by omega)) (j := I 10 n) (by omega) (by omega) (I (14 + k) (I 9 k - 1))
  rw [gk] at h2
  refine ⟨u2, s2, _, h2.fN (by decide) rfl, _, h2.fN (by decide) rfl, ?_⟩
  have g10' : va_up (va_up (va_up I 11 nx) 12 hd) (14 + k) (va_up (I (14 + k)) (I 10 n) (I (14 + k) (I 9 k - 1))) 10 = I 10 := by rw [up_ne _ _ (by omega)]; rfl
  have rb := h2.nia sh 10 n10 hne
  rw [g10'] at rb
  refine ⟨_, rb, ?_⟩
  obtain ⟨u3, s3, h3⟩ := h2.nis sh 10 n10 (j := I (14 + k) (I 9 k - 1)) (by omega) (I 10 n)
  rw [g10'] at h3
  refine ⟨u3, s3, _, h3.fN (by decide) rfl, ?_⟩
  obtain ⟨u4, s4, h4⟩ := h3.isx 9 (by decide) (ii (by decide)) (j := k) (by omega) (by omega) (I 9 k - 1)
  refine ⟨u4, s4, _, h4.fN (by decide) rfl, ?_⟩
  obtain ⟨pf, hs0⟩ := d6.push (nx' := va_up nx n (S 8)) hn f1 f2 (fun m hm hmn => by rw [up_ne _ _ hmn]; exact hx m (fun q => q.1.1 hm)) (up_eq _ _ _)
  rw [pk_sub (show 1 ≤ S 10 by omega)]
  obtain ⟨u5, s5, h5⟩ := h4.sN (by decide) 10 10 (S 10 - 1) (by decide) rfl rfl rfl rfl
  refine ⟨u5, s5, _, h5.fN (by decide) rfl, ?_⟩
  obtain ⟨u6, s6, h6⟩ := h5.nis sh 7 n7 hne 0
  refine ⟨u6, s6, _, h6.fN (by decide) rfl, _, h6.fN (by decide) rfl, ?_⟩
  obtain ⟨u7, s7, h7⟩ := h6.nis sh 11 n11 hne (S 8)
  refine ⟨u7, s7, ?_⟩
  obtain ⟨u8, s8, h8⟩ := h7.sN (by decide) 8 8 n (by decide) rfl rfl rfl rfl
  refine ⟨u8, s8, ?_⟩
  have a7 : ¬ (7 : Nat) = 14 + k := by omega
  have a8 : ¬ (8 : Nat) = 14 + k := by omega
  have a9 : ¬ (9 : Nat) = 14 + k := by omega
  have a10 : ¬ (10 : Nat) = 14 + k := by omega
  have a11 : ¬ (11 : Nat) = 14 + k := by omega
  have a12 : ¬ (12 : Nat) = 14 + k := by omega
  have a13 : ¬ (13 : Nat) = 14 + k := by omega
  generalize hI : va_up (va_up (va_up (va_up (va_up (va_up (va_up I 11 nx) 12 hd) (14 + k) (va_up (I (14 + k)) (I 10 n) (I (14 + k) (I 9 k - 1)))) 10 (va_up (I 10) (I (14 + k) (I 9 k - 1)) (I 10 n))) 9 _) 7 _) 11 _ = I' at h8
  have E7 : I' 7 = va_up (I 7) n 0 := by rw [← hI]; simp [va_up, a7, a9]
  have E8 : I' 8 = I 8 := by rw [← hI]; simp [va_up, a8]
  have E9 : I' 9 = va_up (I 9) k (I 9 k - 1) := by rw [← hI]; simp [va_up, a9]
  have E10 : I' 10 = va_up (I 10) (I (14 + k) (I 9 k - 1)) (I 10 n) := by rw [← hI]; simp [va_up, a10]
  have E11 : I' 11 = va_up nx n (S 8) := by rw [← hI]; simp [va_up, a11]
  have E12 : I' 12 = hd := by rw [← hI]; simp [va_up, a12]
  have E13 : I' 13 = I 13 := by rw [← hI]; simp [va_up, a13]
  have Ek : I' (14 + k) = va_up (I (14 + k)) (I 10 n) (I (14 + k) (I 9 k - 1)) := by
    rw [← hI, up_ne _ _ (by omega), up_ne _ _ (by omega), up_ne _ _ (by omega), up_ne _ _ (by omega), up_eq]
  have Eo : ∀ i : Nat, i < 7 ∨ (14 ≤ i ∧ i ≠ 14 + k) → I' i = I i := fun i hi => by
    rw [← hI, up_ne _ _ (by omega), up_ne _ _ (by omega), up_ne _ _ (by omega), up_ne _ _ (by omega), up_ne _ _ (by omega), up_ne _ _ (by omega), up_ne _ _ (by omega)]
  have hK : ∀ m : Nat, (va_up g n 0 m ≠ 0 ∧ ¬ T m) ↔ (g m ≠ 0 ∧ ¬ T m) ∧ m ≠ n := fun m => by
    by_cases c : m = n
    · subst c; rw [up_eq]; exact ⟨fun q => absurd rfl q.1, fun q => absurd rfl q.2⟩
    · rw [up_ne _ _ c]; exact ⟨fun q => ⟨q, c⟩, fun q => q.1⟩
  refine hQ u8 _ I' h8 ⟨fun m a b => ?_, ?_, fun m hm => ?_, d4, ?_, ?_, ?_, fun l hl => ?_⟩ ⟨fun i hi => Eo i (by omega), fun s a b c => ?_, E13⟩ E8 (by rw [E9, hk]) ?_ ?_ (fun m hm hg => ?_)
  · rw [E7]
    by_cases c : m = n
    · subst c; rw [up_eq, up_eq]
    · rw [up_ne _ _ c, up_ne _ _ c]; exact d1 m a b
  · rw [E7, up_ne _ _ (by omega), up_ne _ _ (by omega)]; exact d2
  · by_cases c : m = n
    · subst c; rw [up_eq] at hm; exact absurd rfl hm
    · rw [up_ne _ _ c] at hm ⊢; exact d3 m hm
  · rw [E11, E12]
    exact ht.congr hK (fun m hm => up_ne _ _ hm.2) (fun m hm => up_ne _ _ hm.2)
  · rw [E11]; exact pf
  · rw [E9, E10]
    refine MBR.rem d7 (n := n) (k := k) ⟨hn, hT⟩ hk hK (fun m hm => up_ne _ _ ((hK m).mp hm).2) Ek (fun l hl hne2 => Eo (14 + l) (by omega))
  · rw [E9]
    by_cases c : l = k
    · subst c; rw [up_eq]; omega
    · rw [up_ne _ _ c]; exact d8 l hl
  · show va_up (va_up S 10 _) 8 _ s = S s
    rw [up_ne _ _ a, up_ne _ _ c]
  · rfl
  · show S 10 - 1 + 1 = S 10
    omega
  · rw [E11]
    have : m ≠ n := fun q => hT (q ▸ hm)
    rw [up_ne _ _ this]
    exact hx m (fun q => q.1.2 hm)
end ND3
