/-! neighbours of the order change their places -/
def SW (o o' : Nat → Nat) (i : Nat) : Prop := i < 9 ∧ o' i = o (i + 1) ∧ o' (i + 1) = o i ∧ ∀ j : Nat, j ≠ i → j ≠ i + 1 → o' j = o j
def W2 (o o' : Nat → Nat) (k : Nat) (f : Fn) : Prop := Wo o k f ∨ Wo o' k f
section SWs
variable {o o' : Nat → Nat} {i : Nat}
theorem SW.lo (h : SW o o' i) {j : Nat} (hj : j < i) : o' j = o j := h.2.2.2 j (by omega) (by omega)
theorem SW.other (h : SW o o' i) (ho : PO o) {k : Nat} {f : Fn} (hx : k ≠ o i) (hy : k ≠ o (i + 1)) (hw : Wo o k f) : Wo o' k f := by
  obtain ⟨l, hl, e, hd⟩ := hw
  have h1 : l ≠ i := fun z => hx (by rw [← e, z])
  have h2 : l ≠ i + 1 := fun z => hy (by rw [← e, z])
  refine ⟨l, hl, by rw [h.2.2.2 l h1 h2, e], fun j hj => ?_⟩
  by_cases c1 : j = i
  · subst c1; rw [h.2.1]; exact hd _ (by omega)
  · by_cases c2 : j = i + 1
    · subst c2; rw [h.2.2.1]; exact hd _ (by omega)
    · rw [h.2.2.2 j c1 c2]; exact hd j hj
theorem SW.woy (h : SW o o' i) (ho : PO o) {f : Fn} (hw : Wo o (o (i + 1)) f) : Wo o' (o (i + 1)) f := by
  obtain ⟨l, hl, e, hd⟩ := hw
  have h9 := h.1
  have h1 : l = i + 1 := ho.2 l (i + 1) hl (by omega) e
  subst h1
  refine ⟨i, by omega, h.2.1, fun j hj => ?_⟩
  rw [h.lo hj]; exact hd j (by omega)
theorem SW.wox (h : SW o o' i) (ho : PO o) {f : Fn} (hw : Wo o (o i) f) (hy : ¬ dep f (o (i + 1))) : Wo o' (o i) f := by
  obtain ⟨l, hl, e, hd⟩ := hw
  have h9 := h.1
  have h1 : l = i := ho.2 l i hl (by omega) e
  subst h1
  refine ⟨l + 1, by omega, h.2.2.1, fun j hj => ?_⟩
  by_cases c : j = l
  · subst c; rw [h.2.1]; exact hy
  · rw [h.lo (show j < l by omega)]; exact hd j (by omega)
theorem SW.done (h : SW o o' i) (ho : PO o) {g : Nat → Nat} {D : Nat → Fn} (hc : CAN (W2 o o') g D) (hx : ∀ n : Nat, g n ≠ 0 → nk (g n) = o i → ¬ dep (D n) (o (i + 1))) : CAN (Wo o') g D := by
  refine hc.mono (fun n hn => ?_)
  rcases hc.w hn with hw | hw
  · by_cases c1 : nk (g n) = o i
    · rw [c1] at hw ⊢; exact h.wox ho hw (hx n hn c1)
    · by_cases c2 : nk (g n) = o (i + 1)
      · rw [c2] at hw ⊢; exact h.woy ho hw
      · exact h.other ho c1 c2 hw
  · exact hw
/-- those that no function has together -/
theorem SW.pass (h : SW o o' i) (ho : PO o) {g : Nat → Nat} {D : Nat → Fn} (hc : CAN (Wo o) g D) (hx : ∀ n : Nat, g n ≠ 0 → ¬ (dep (D n) (o i) ∧ dep (D n) (o (i + 1)))) : CAN (Wo o') g D :=
  h.done ho (hc.mono (fun _ hn => Or.inl (hc.w hn))) (fun n hn hk hd => hx n hn ⟨by rw [← hk]; exact hc.dp hn, hd⟩)
end SWs
/-- the input of a number, the answers' too -/
def kd (g : Nat → Nat) (c : Nat) : Nat := if c < 2 then 10 else nk (g c)
def pt (g : Nat → Nat) (y : Nat) (b : Bool) (c : Nat) : Nat := if kd g c = y then (if b then n1 (g c) else n0 (g c)) else c
def MD (g : Nat → Nat) (k a b m : Nat) : Prop := (a = b ∧ m = a) ∨ (a ≠ b ∧ g m = cd k a b)
theorem iteF_same (k : Nat) (f : Fn) : iteF k f f = f := by
  funext x
  unfold iteF
  split <;> rfl
section TURN
variable {W : Nat → Fn → Prop} {g : Nat → Nat} {D : Nat → Fn} {rt : Nat → Nat} {o o' : Nat → Nat} {i : Nat}
theorem kd_live (h : CAN W g D) {c y : Nat} (hy : y < 10) (hc : IN g c) (e : kd g c = y) : g c ≠ 0 ∧ nk (g c) = y := by
  unfold kd at e
  rcases hc with hc | hc
  · rw [if_pos hc] at e; omega
  · have := h.ge hc
    rw [if_neg (by omega)] at e
    exact ⟨hc, e⟩
theorem kd_of (h : CAN W g D) {c : Nat} (hc : g c ≠ 0) : kd g c = nk (g c) := by
  have := h.ge hc
  exact if_neg (by omega)
theorem pt_D (h : CAN W g D) {c y : Nat} (hy : y < 10) (hc : IN g c) (hd : kd g c ≠ y → ¬ dep (D c) y) (b : Bool) : IN g (pt g y b c) ∧ D (pt g y b c) = cof y b (D c) := by
  unfold pt
  by_cases e : kd g c = y
  · rw [if_pos e]
    obtain ⟨hl, hk⟩ := kd_live h hy hc e
    cases b
    · rw [if_neg (by decide)]
      exact ⟨h.i0 hl, by rw [← h.c0 hl, hk]⟩
    · rw [if_pos rfl]
      exact ⟨h.i1 hl, by rw [← h.c1 hl, hk]⟩
  · rw [if_neg e]
    exact ⟨hc, (not_dep (hd e) b).symm⟩
theorem MD_D (h : CAN W g D) {k a b m : Nat} (ha : IN g a) (hb : IN g b) (hm : MD g k a b m) : IN g m ∧ D m = iteF k (D a) (D b) := by
  rcases hm with ⟨e, em⟩ | ⟨e, em⟩
  · subst e; subst em
    exact ⟨ha, (iteF_same k _).symm⟩
  · have la := h.inlt ha
    have lb := h.inlt hb
    have hl : g m ≠ 0 := by rw [em]; exact cd_ne e
    have e0 := h.c0 hl
    have e1 := h.c1 hl
    rw [em, nk_cd la lb] at e0 e1
    rw [n0_cd la lb] at e0
    rw [n1_cd lb] at e1
    exact ⟨Or.inr hl, by rw [← e0, ← e1, ite_cof]⟩
noncomputable def dl (g rt : Nat → Nat) (c : Nat) : Nat → Nat := @ite _ (LED g rt c) (Classical.propDecidable _) g (va_up g c 0)
theorem dl_pos {c : Nat} (h : LED g rt c) : dl g rt c = g := if_pos h
theorem dl_neg {c : Nat} (h : ¬ LED g rt c) : dl g rt c = va_up g c 0 := if_neg h
theorem dl_can (h : CAN W g D) (c : Nat) : CAN W (dl g rt c) D := by
  by_cases hl : LED g rt c
  · rw [dl_pos hl]; exact h
  · rw [dl_neg hl]
    exact h.del (fun m hm => ⟨fun z => hl (Or.inl ⟨m, hm, Or.inl z⟩), fun z => hl (Or.inl ⟨m, hm, Or.inr z⟩)⟩)
theorem dl_ne {c m : Nat} (h : m ≠ c) : dl g rt c m = g m := by
  by_cases hl : LED g rt c
  · rw [dl_pos hl]
  · rw [dl_neg hl, up_ne _ _ h]
theorem dl_live {c m : Nat} (h : dl g rt c m ≠ 0) : dl g rt c m = g m := by
  by_cases hl : LED g rt c
  · rw [dl_pos hl]
  · rw [dl_neg hl] at h ⊢
    by_cases e : m = c
    · subst e; rw [up_eq] at h; exact absurd rfl h
    · rw [up_ne _ _ e]
theorem dl_root {c p : Nat} (hp : p < 24) (h : IN g (rt p)) : IN (dl g rt c) (rt p) := by
  by_cases hl : LED g rt c
  · rw [dl_pos hl]; exact h
  · have : rt p ≠ c := fun z => hl (Or.inr ⟨p, hp, z⟩)
    rcases h with h | h
    · exact Or.inl h
    · exact Or.inr (by rw [dl_ne this]; exact h)
theorem dl_led {c : Nat} {E : Nat → Prop} (hL : ∀ m : Nat, g m ≠ 0 → ¬ E m → m ≠ c → LED g rt m) (hch : ¬ LED g rt c → g c ≠ 0 → ∀ q : Nat, n0 (g c) = q ∨ n1 (g c) = q → ∃ m : Nat, m ≠ c ∧ g m ≠ 0 ∧ (n0 (g m) = q ∨ n1 (g m) = q)) : ∀ m : Nat, dl g rt c m ≠ 0 → ¬ E m → LED (dl g rt c) rt m := by
  intro m hm hE
  by_cases hl : LED g rt c
  · rw [dl_pos hl] at hm ⊢
    by_cases e : m = c
    · subst e; exact hl
    · exact hL m hm hE e
  · rw [dl_neg hl] at hm ⊢
    have e : m ≠ c := fun e => by subst e; rw [up_eq] at hm; exact absurd rfl hm
    rw [up_ne _ _ e] at hm
    rcases hL m hm hE e with ⟨m', h1, h2⟩ | h
    · by_cases e' : m' = c
      · subst e'
        obtain ⟨m2, h3, h4, h5⟩ := hch hl h1 m h2
        exact Or.inl ⟨m2, by rw [up_ne _ _ h3]; exact h4, by rw [up_ne _ _ h3]; exact h5⟩
      · exact Or.inl ⟨m', by rw [up_ne _ _ e']; exact h1, by rw [up_ne _ _ e']; exact h2⟩
    · exact Or.inr h
noncomputable def turnG (g rt : Nat → Nat) (n y a b : Nat) : Nat → Nat := dl (dl (va_up g n (cd y a b)) rt (n0 (g n))) rt (n1 (g n))
/-- what is known of a node that is turned -/
theorem turn_facts (hs : SW o o' i) (ho : PO o) (hc : CAN (W2 o o') g D) {n : Nat} (hn : g n ≠ 0) (hk : nk (g n) = o i) :
    (∀ j : Nat, j < i → ¬ dep (D n) (o j)) ∧ ∀ s : Nat, (s = n0 (g n) ∨ s = n1 (g n)) → (kd g s ≠ o (i + 1) → ¬ dep (D s) (o (i + 1))) ∧ (∀ b : Bool, IN g (pt g (o (i + 1)) b s) ∧ D (pt g (o (i + 1)) b s) = cof (o (i + 1)) b (D s)) := by
  have h9 := hs.1
  have hy : o (i + 1) < 10 := ho.1 _ (by omega)
  have f1 : ∀ j : Nat, j < i → ¬ dep (D n) (o j) := by
    rcases hc.w hn with ⟨l, hl, e, h2⟩ | ⟨l, hl, e, h2⟩
    · have : l = i := ho.2 l i hl (by omega) (e.trans hk)
      subst this; exact h2
    · intro j hj
      have : i < l := by
        refine Classical.byContradiction (fun z => ?_)
        by_cases c : l = i
        · subst c
          rw [hs.2.1, hk] at e
          have := ho.2 (l + 1) l (by omega) (by omega) e
          omega
        · rw [hs.lo (show l < i by omega), hk] at e
          have := ho.2 l i hl (by omega) e
          omega
      rw [← hs.lo hj]; exact h2 j (by omega)
  refine ⟨f1, fun s hsn => ?_⟩
  have hin : IN g s := by
    rcases hsn with rfl | rfl
    · exact hc.i0 hn
    · exact hc.i1 hn
  have hcf : ∃ c : Bool, D s = cof (o i) c (D n) := by
    rcases hsn with rfl | rfl
    · exact ⟨false, by rw [← hc.c0 hn, hk]⟩
    · exact ⟨true, by rw [← hc.c1 hn, hk]⟩
  obtain ⟨c, ec⟩ := hcf
  have f2 : kd g s ≠ o (i + 1) → ¬ dep (D s) (o (i + 1)) := by
    intro hk2 hd2
    have hl := hc.live hin hd2
    refine hk2 ?_
    rw [kd_of hc hl]
    have hb : ∀ j : Nat, j < i → ¬ dep (D s) (o j) := fun j hj z => f1 j hj (cof_dep (by rw [← ec]; exact z))
    rcases hc.w hl with hw | hw
    · refine hw.uniq (hc.dp hl) hd2 (fun j hj => ?_)
      by_cases e : j = i
      · subst e; rw [ec]; exact not_dep_cof _ _ _
      · exact hb j (by omega)
    · have := hw.uniq (i := i) (hc.dp hl) (by rw [hs.2.1]; exact hd2) (fun j hj => by rw [hs.lo hj]; exact hb j hj)
      rw [this, hs.2.1]
  exact ⟨f2, fun b => pt_D hc hy hin f2 b⟩
theorem turn_new (hs : SW o o' i) (ho : PO o) (hc : CAN (W2 o o') g D) {n : Nat} (hn : g n ≠ 0) (hk : nk (g n) = o i) (hd : dep (D n) (o (i + 1))) (b : Bool) : iteF (o i) (D (pt g (o (i + 1)) b (n0 (g n)))) (D (pt g (o (i + 1)) b (n1 (g n)))) = cof (o (i + 1)) b (D n) := by
  obtain ⟨_, f2⟩ := turn_facts hs ho hc hn hk
  have h9 := hs.1
  have hxy : o i ≠ o (i + 1) := fun z => by have := ho.2 i (i + 1) (by omega) (by omega) z; omega
  rw [((f2 _ (Or.inl rfl)).2 b).2, ((f2 _ (Or.inr rfl)).2 b).2, ← hc.c0 hn, ← hc.c1 hn, hk, cof_comm hxy.symm, cof_comm hxy.symm]
  exact ite_cof _ _
theorem turn_ok (hs : SW o o' i) (ho : PO o) (hc : CAN (W2 o o') g D) {n : Nat} (hn : g n ≠ 0) (hk : nk (g n) = o i) (hd : dep (D n) (o (i + 1))) {mb : Bool → Nat} (hm : ∀ b : Bool, MD g (o i) (pt g (o (i + 1)) b (n0 (g n))) (pt g (o (i + 1)) b (n1 (g n))) (mb b)) (hL : ∀ m : Nat, g m ≠ 0 → ¬ (m = mb false ∨ m = mb true) → LED g rt m) :
    CAN (W2 o o') (turnG g rt n (o (i + 1)) (mb false) (mb true)) D ∧ (∀ m : Nat, turnG g rt n (o (i + 1)) (mb false) (mb true) m ≠ 0 → LED (turnG g rt n (o (i + 1)) (mb false) (mb true)) rt m) ∧
    (∀ b : Bool, IN g (mb b) ∧ D (mb b) = cof (o (i + 1)) b (D n)) ∧ CAN (W2 o o') (va_up g n (cd (o (i + 1)) (mb false) (mb true))) D ∧ n ≠ n0 (g n) ∧ n ≠ n1 (g n) ∧
    (∀ s : Nat, (s = n0 (g n) ∨ s = n1 (g n)) → kd g s ≠ o (i + 1) → LED (va_up g n (cd (o (i + 1)) (mb false) (mb true))) rt s) ∧ (kd g (n1 (g n)) ≠ o (i + 1) → LED (dl (va_up g n (cd (o (i + 1)) (mb false) (mb true))) rt (n0 (g n))) rt (n1 (g n))) := by
  obtain ⟨f1, f2⟩ := turn_facts hs ho hc hn hk
  have h9 := hs.1
  have hy : o (i + 1) < 10 := ho.1 _ (by omega)
  have f4 : ∀ b : Bool, IN g (mb b) ∧ D (mb b) = cof (o (i + 1)) b (D n) := fun b => by
    have := MD_D hc ((f2 _ (Or.inl rfl)).2 b).1 ((f2 _ (Or.inr rfl)).2 b).1 (hm b)
    exact ⟨this.1, by rw [this.2, turn_new hs ho hc hn hk hd b]⟩
  have hmn : ∀ b : Bool, mb b ≠ n := fun b z => by
    have h1 := (f4 b).2
    rw [z] at h1
    rw [h1] at hd
    exact not_dep_cof _ _ _ hd
  have hnd : ∀ s : Nat, (s = n0 (g n) ∨ s = n1 (g n)) → n ≠ s := fun s hsn z => by
    have h1 := hc.dp hn
    rcases hsn with e | e
    · rw [z] at h1
      have h2 := hc.nd0 hn
      rw [← e, ← z] at h2
      exact h2 (hc.dp hn)
    · have h2 := hc.nd1 hn
      rw [← e, ← z] at h2
      exact h2 (hc.dp hn)
  have hms : ∀ (b : Bool) (s : Nat), (s = n0 (g n) ∨ s = n1 (g n)) → kd g s = o (i + 1) → mb b ≠ s := fun b s hsn hks z => by
    have hin : IN g s := by
      rcases hsn with rfl | rfl
      · exact hc.i0 hn
      · exact hc.i1 hn
    obtain ⟨hl, hk2⟩ := kd_live hc hy hin hks
    have h1 := hc.dp hl
    rw [hk2, ← z, (f4 b).2] at h1
    exact not_dep_cof _ _ _ h1
  have la := hc.inlt (f4 false).1
  have lb := hc.inlt (f4 true).1
  have hw : W2 o o' (o (i + 1)) (D n) := Or.inr ⟨i, by omega, hs.2.1, fun j hj => by rw [hs.lo hj]; exact f1 j hj⟩
  have hc2 : CAN (W2 o o') (va_up g n (cd (o (i + 1)) (mb false) (mb true))) D := hc.set hn hy (f4 false).1 (f4 true).1 (f4 false).2.symm (f4 true).2.symm hd hw
  have hab : mb false ≠ mb true := fun z => hd (by rw [← (f4 false).2, ← (f4 true).2, z])
  have gn : va_up g n (cd (o (i + 1)) (mb false) (mb true)) n = cd (o (i + 1)) (mb false) (mb true) := up_eq _ _ _
  have gm : ∀ m : Nat, m ≠ n → va_up g n (cd (o (i + 1)) (mb false) (mb true)) m = g m := fun m z => up_ne _ _ z
  have ln : ∀ b : Bool, n0 (va_up g n (cd (o (i + 1)) (mb false) (mb true)) n) = mb b ∨ n1 (va_up g n (cd (o (i + 1)) (mb false) (mb true)) n) = mb b := fun b => by
    rw [gn, n0_cd la lb, n1_cd lb]
    cases b
    · exact Or.inl rfl
    · exact Or.inr rfl
  have gnz : va_up g n (cd (o (i + 1)) (mb false) (mb true)) n ≠ 0 := by rw [gn]; exact cd_ne hab
  -- a parent of each half
  have par : ∀ (b : Bool) (s : Nat), (s = n0 (g n) ∨ s = n1 (g n)) → ∃ m : Nat, (m = n ∨ m = mb b) ∧ va_up g n (cd (o (i + 1)) (mb false) (mb true)) m ≠ 0 ∧ (n0 (va_up g n (cd (o (i + 1)) (mb false) (mb true)) m) = pt g (o (i + 1)) b s ∨ n1 (va_up g n (cd (o (i + 1)) (mb false) (mb true)) m) = pt g (o (i + 1)) b s) := fun b s hsn => by
    rcases hm b with ⟨e1, e2⟩ | ⟨e1, e2⟩
    · refine ⟨n, Or.inl rfl, gnz, ?_⟩
      have e3 : pt g (o (i + 1)) b s = mb b := by
        rcases hsn with rfl | rfl
        · exact e2.symm
        · rw [← e1]; exact e2.symm
      rw [e3]; exact ln b
    · refine ⟨mb b, Or.inr rfl, ?_, ?_⟩
      · rw [gm _ (hmn b), e2]; exact cd_ne e1
      · have l1 := hc.inlt ((f2 _ (Or.inl rfl)).2 b).1
        have l2 := hc.inlt ((f2 _ (Or.inr rfl)).2 b).1
        rw [gm _ (hmn b), e2, n0_cd l1 l2, n1_cd l2]
        rcases hsn with rfl | rfl
        · exact Or.inl rfl
        · exact Or.inr rfl
  have hL2 : ∀ m : Nat, va_up g n (cd (o (i + 1)) (mb false) (mb true)) m ≠ 0 → ¬ m = n1 (g n) → m ≠ n0 (g n) → LED (va_up g n (cd (o (i + 1)) (mb false) (mb true))) rt m := by
    intro m hmz h1 h0
    by_cases e : m = mb false ∨ m = mb true
    · refine Or.inl ⟨n, gnz, ?_⟩
      rcases e with rfl | rfl
      · exact ln false
      · exact ln true
    · have hg : g m ≠ 0 := by
        by_cases c : m = n
        · subst c; exact hn
        · rw [gm m c] at hmz; exact hmz
      rcases hL m hg e with ⟨m', h3, h4⟩ | h
      · by_cases c : m' = n
        · subst c
          rcases h4 with h4 | h4
          · exact absurd h4.symm h0
          · exact absurd h4.symm h1
        · exact Or.inl ⟨m', by rw [gm _ c]; exact h3, by rw [gm _ c]; exact h4⟩
      · exact Or.inr h
  have kled : ∀ s : Nat, (s = n0 (g n) ∨ s = n1 (g n)) → kd g s ≠ o (i + 1) → LED (va_up g n (cd (o (i + 1)) (mb false) (mb true))) rt s := fun s hsn hks => by
    obtain ⟨m, _, h2, h3⟩ := par false s hsn
    have e : pt g (o (i + 1)) false s = s := if_neg hks
    rw [e] at h3
    exact Or.inl ⟨m, h2, h3⟩
  -- children of a node that goes
  have chl : ∀ s : Nat, (s = n0 (g n) ∨ s = n1 (g n)) → kd g s = o (i + 1) → ∀ q : Nat, n0 (g s) = q ∨ n1 (g s) = q → ∃ (b : Bool) (m : Nat), (m = n ∨ m = mb b) ∧ va_up g n (cd (o (i + 1)) (mb false) (mb true)) m ≠ 0 ∧ (n0 (va_up g n (cd (o (i + 1)) (mb false) (mb true)) m) = q ∨ n1 (va_up g n (cd (o (i + 1)) (mb false) (mb true)) m) = q) := fun s hsn hks q hq => by
    rcases hq with hq | hq
    · obtain ⟨m, h1, h2, h3⟩ := par false s hsn
      have e : pt g (o (i + 1)) false s = q := by rw [← hq]; exact if_pos hks
      rw [e] at h3
      exact ⟨false, m, h1, h2, h3⟩
    · obtain ⟨m, h1, h2, h3⟩ := par true s hsn
      have e : pt g (o (i + 1)) true s = q := by rw [← hq]; exact if_pos hks
      rw [e] at h3
      exact ⟨true, m, h1, h2, h3⟩
  have n0n : n0 (g n) ≠ n := (hnd _ (Or.inl rfl)).symm
  have n1n : n1 (g n) ≠ n := (hnd _ (Or.inr rfl)).symm
  have hL3 := dl_led (g := va_up g n (cd (o (i + 1)) (mb false) (mb true))) (rt := rt) (c := n0 (g n)) (E := fun m => m = n1 (g n)) hL2 (fun hnl hz q hq => by
    have hks : kd g (n0 (g n)) = o (i + 1) := Classical.byContradiction (fun z => hnl (kled _ (Or.inl rfl) z))
    rw [gm _ n0n] at hq
    obtain ⟨b, m, h1, h2, h3⟩ := chl _ (Or.inl rfl) hks q hq
    refine ⟨m, ?_, h2, h3⟩
    rcases h1 with rfl | rfl
    · exact hnd _ (Or.inl rfl)
    · exact hms b _ (Or.inl rfl) hks)
  have hc3 := dl_can (rt := rt) hc2 (n0 (g n))
  have kled1 : kd g (n1 (g n)) ≠ o (i + 1) → LED (dl (va_up g n (cd (o (i + 1)) (mb false) (mb true))) rt (n0 (g n))) rt (n1 (g n)) := fun z => by
    obtain ⟨m, h1, h2, h3⟩ := par false _ (Or.inr rfl)
    have e : pt g (o (i + 1)) false (n1 (g n)) = n1 (g n) := if_neg z
    rw [e] at h3
    by_cases c : m = n0 (g n)
    · by_cases hl : LED (va_up g n (cd (o (i + 1)) (mb false) (mb true))) rt (n0 (g n))
      · rw [dl_pos hl]; exact Or.inl ⟨m, h2, h3⟩
      · have hks0 : kd g (n0 (g n)) = o (i + 1) := Classical.byContradiction (fun z => hl (kled _ (Or.inl rfl) z))
        rcases h1 with rfl | rfl
        · exact absurd c.symm n0n
        · exact absurd c (hms false _ (Or.inl rfl) hks0)
    · exact Or.inl ⟨m, by rw [dl_ne c]; exact h2, by rw [dl_ne c]; exact h3⟩
  have hL4 := dl_led (g := dl (va_up g n (cd (o (i + 1)) (mb false) (mb true))) rt (n0 (g n))) (rt := rt) (c := n1 (g n)) (E := fun _ => False) (fun m h1 _ h3 => hL3 m h1 h3) (fun hnl hz q hq => by
    have e1 := dl_live hz
    rw [e1, gm _ n1n] at hq
    have hks : kd g (n1 (g n)) = o (i + 1) := Classical.byContradiction (fun z => hnl (kled1 z))
    obtain ⟨b, m, h1, h2, h3⟩ := chl _ (Or.inr rfl) hks q hq
    have hm1 : m ≠ n1 (g n) := by
      rcases h1 with rfl | rfl
      · exact hnd _ (Or.inr rfl)
      · exact hms b _ (Or.inr rfl) hks
    have e2 : dl (va_up g n (cd (o (i + 1)) (mb false) (mb true))) rt (n0 (g n)) m = va_up g n (cd (o (i + 1)) (mb false) (mb true)) m := by
      by_cases hl : LED (va_up g n (cd (o (i + 1)) (mb false) (mb true))) rt (n0 (g n))
      · rw [dl_pos hl]
      · have hks0 : kd g (n0 (g n)) = o (i + 1) := Classical.byContradiction (fun z => hl (kled _ (Or.inl rfl) z))
        refine dl_ne (fun c => ?_)
        rcases h1 with rfl | rfl
        · exact n0n c.symm
        · exact hms b _ (Or.inl rfl) hks0 c
    exact ⟨m, hm1, by rw [e2]; exact h2, by rw [e2]; exact h3⟩)
  exact ⟨dl_can hc3 _, fun m hm => hL4 m hm (fun z => z), f4, hc2, hnd _ (Or.inl rfl), hnd _ (Or.inr rfl), kled, kled1⟩
end TURN
