/-! nodes as numbers with codes, and what they stand for -/
def iteF (k : Nat) (g h : Fn) : Fn := fun x => if x k then h x else g x
theorem cof_ite (k : Nat) (g h : Fn) (c : Bool) : cof k c (iteF k g h) = if c then cof k true h else cof k false g := by
  cases c
  · funext x
    show (if upA x k false k = true then h (upA x k false) else g (upA x k false)) = g (upA x k false)
    rw [upA_s]
    exact if_neg (by decide)
  · funext x
    show (if upA x k true k = true then h (upA x k true) else g (upA x k true)) = h (upA x k true)
    rw [upA_s]
    exact if_pos rfl
theorem ite_cof (k : Nat) (f : Fn) : iteF k (cof k false f) (cof k true f) = f := by
  refine cof_ext k ?_ ?_
  · rw [cof_ite, if_neg (by decide), cof_cof]
  · rw [cof_ite, if_pos rfl, cof_cof]
theorem cof_dep {k l : Nat} {c : Bool} {f : Fn} (h : dep (cof l c f) k) : dep f k := by
  by_cases e : k = l
  · subst e; exact absurd h (not_dep_cof _ _ _)
  · refine Classical.byContradiction (fun hn => h ?_)
    rw [cof_comm e, cof_comm e, not_dep hn, not_dep hn]
theorem ite_dep {k l : Nat} {g h : Fn} (hd : dep (iteF k g h) l) : l = k ∨ dep g l ∨ dep h l := by
  by_cases e : l = k
  · exact Or.inl e
  · refine Or.inr (Classical.byContradiction (fun hn => ?_))
    have hg : ¬ dep g l := fun z => hn (Or.inl z)
    have hh : ¬ dep h l := fun z => hn (Or.inr z)
    refine hd (cof_ext k ?_ ?_)
    · rw [cof_comm (Ne.symm e), cof_comm (Ne.symm e), cof_ite, if_neg (by decide), cof_comm e, cof_comm e, not_dep hg, not_dep hg]
    · rw [cof_comm (Ne.symm e), cof_comm (Ne.symm e), cof_ite, if_pos rfl, cof_comm e, cof_comm e, not_dep hh, not_dep hh]
theorem const_dep (c : Bool) (k : Nat) : ¬ dep (fun _ => c) k := fun h => h rfl
def nk (w : Nat) : Nat := w / 268435456
def n0 (w : Nat) : Nat := w / 16384 % 16384
def n1 (w : Nat) : Nat := w % 16384
def cd (k z o : Nat) : Nat := k * 268435456 + z * 16384 + o
theorem nk_cd {k z o : Nat} (hz : z < 16384) (ho : o < 16384) : nk (cd k z o) = k := by unfold nk cd; omega
theorem n0_cd {k z o : Nat} (hz : z < 16384) (ho : o < 16384) : n0 (cd k z o) = z := by unfold n0 cd; omega
theorem n1_cd {k z o : Nat} (ho : o < 16384) : n1 (cd k z o) = o := by unfold n1 cd; omega
theorem cd_eta (w : Nat) : cd (nk w) (n0 w) (n1 w) = w := by unfold nk n0 n1 cd; omega
theorem cd_ne {k z o : Nat} (h : z ≠ o) : cd k z o ≠ 0 := by unfold cd; omega
theorem n0_lt (w : Nat) : n0 w < 16384 := Nat.mod_lt _ (by decide)
theorem n1_lt (w : Nat) : n1 w < 16384 := Nat.mod_lt _ (by decide)
def IN (g : Nat → Nat) (n : Nat) : Prop := n < 2 ∨ g n ≠ 0
def CAN (W : Nat → Fn → Prop) (g : Nat → Nat) (D : Nat → Fn) : Prop :=
  (D 0 = fun _ => false) ∧ (D 1 = fun _ => true) ∧
  (∀ n : Nat, g n ≠ 0 → 2 ≤ n ∧ n < 16384 ∧ nk (g n) < 10 ∧ IN g (n0 (g n)) ∧ IN g (n1 (g n)) ∧ cof (nk (g n)) false (D n) = D (n0 (g n)) ∧ cof (nk (g n)) true (D n) = D (n1 (g n)) ∧ n0 (g n) ≠ n1 (g n) ∧ W (nk (g n)) (D n)) ∧
  ∀ n m : Nat, IN g n → IN g m → D n = D m → n = m
section CANs
variable {W : Nat → Fn → Prop} {g : Nat → Nat} {D : Nat → Fn}
theorem CAN.ge (h : CAN W g D) {n : Nat} (hn : g n ≠ 0) : 2 ≤ n := (h.2.2.1 n hn).1
theorem CAN.lt (h : CAN W g D) {n : Nat} (hn : g n ≠ 0) : n < 16384 := (h.2.2.1 n hn).2.1
theorem CAN.k (h : CAN W g D) {n : Nat} (hn : g n ≠ 0) : nk (g n) < 10 := (h.2.2.1 n hn).2.2.1
theorem CAN.i0 (h : CAN W g D) {n : Nat} (hn : g n ≠ 0) : IN g (n0 (g n)) := (h.2.2.1 n hn).2.2.2.1
theorem CAN.i1 (h : CAN W g D) {n : Nat} (hn : g n ≠ 0) : IN g (n1 (g n)) := (h.2.2.1 n hn).2.2.2.2.1
theorem CAN.c0 (h : CAN W g D) {n : Nat} (hn : g n ≠ 0) : cof (nk (g n)) false (D n) = D (n0 (g n)) := (h.2.2.1 n hn).2.2.2.2.2.1
theorem CAN.c1 (h : CAN W g D) {n : Nat} (hn : g n ≠ 0) : cof (nk (g n)) true (D n) = D (n1 (g n)) := (h.2.2.1 n hn).2.2.2.2.2.2.1
theorem CAN.ne (h : CAN W g D) {n : Nat} (hn : g n ≠ 0) : n0 (g n) ≠ n1 (g n) := (h.2.2.1 n hn).2.2.2.2.2.2.2.1
theorem CAN.w (h : CAN W g D) {n : Nat} (hn : g n ≠ 0) : W (nk (g n)) (D n) := (h.2.2.1 n hn).2.2.2.2.2.2.2.2
theorem CAN.inj (h : CAN W g D) {n m : Nat} (hn : IN g n) (hm : IN g m) (e : D n = D m) : n = m := h.2.2.2 n m hn hm e
theorem CAN.inlt (h : CAN W g D) {n : Nat} (hn : IN g n) : n < 16384 := by
  rcases hn with hn | hn
  · omega
  · exact h.lt hn
theorem CAN.nz (h : CAN W g D) {n : Nat} (hn : n < 2) : g n = 0 := Classical.byContradiction (fun z => by have := h.ge z; omega)
theorem CAN.dp (h : CAN W g D) {n : Nat} (hn : g n ≠ 0) : dep (D n) (nk (g n)) := fun e => h.ne hn (h.inj (h.i0 hn) (h.i1 hn) (by rw [← h.c0 hn, ← h.c1 hn, e]))
theorem CAN.nd (h : CAN W g D) {n : Nat} (hn : n < 2) (k : Nat) : ¬ dep (D n) k := by
  rcases (by omega : n = 0 ∨ n = 1) with rfl | rfl
  · rw [h.1]; exact const_dep _ _
  · rw [h.2.1]; exact const_dep _ _
theorem CAN.live (h : CAN W g D) {n k : Nat} (hn : IN g n) (hd : dep (D n) k) : g n ≠ 0 := by
  rcases hn with hn | hn
  · exact absurd hd (h.nd hn k)
  · exact hn
theorem CAN.nd0 (h : CAN W g D) {n : Nat} (hn : g n ≠ 0) : ¬ dep (D (n0 (g n))) (nk (g n)) := by
  rw [← h.c0 hn]; exact not_dep_cof _ _ _
theorem CAN.nd1 (h : CAN W g D) {n : Nat} (hn : g n ≠ 0) : ¬ dep (D (n1 (g n))) (nk (g n)) := by
  rw [← h.c1 hn]; exact not_dep_cof _ _ _
theorem CAN.mono (h : CAN W g D) {W' : Nat → Fn → Prop} (hw : ∀ n : Nat, g n ≠ 0 → W' (nk (g n)) (D n)) : CAN W' g D := by
  refine ⟨h.1, h.2.1, fun n hn => ?_, h.2.2.2⟩
  obtain ⟨a1, a2, a3, a4, a5, a6, a7, a8, _⟩ := h.2.2.1 n hn
  exact ⟨a1, a2, a3, a4, a5, a6, a7, a8, hw n hn⟩
/-- the one with a given function -/
theorem CAN.code (h : CAN W g D) {m a b k : Nat} (hm : IN g m) (ha : IN g a) (hb : IN g b) (hab : a ≠ b) (da : ¬ dep (D a) k) (db : ¬ dep (D b) k) (e : D m = iteF k (D a) (D b)) (hk : ∀ k' : Nat, W k' (D m) → dep (D m) k' → k' = k) : g m = cd k a b := by
  have e0 : cof k false (D m) = D a := by rw [e, cof_ite, if_neg (by decide), not_dep da]
  have e1 : cof k true (D m) = D b := by rw [e, cof_ite, if_pos rfl, not_dep db]
  have hd : dep (D m) k := fun z => hab (h.inj ha hb (by rw [← e0, ← e1]; exact z))
  have hl := h.live hm hd
  have hkk : nk (g m) = k := hk _ (h.w hl) (h.dp hl)
  have x0 : n0 (g m) = a := h.inj (h.i0 hl) ha (by rw [← h.c0 hl, hkk, e0])
  have x1 : n1 (g m) = b := h.inj (h.i1 hl) hb (by rw [← h.c1 hl, hkk, e1])
  rw [← cd_eta (g m), hkk, x0, x1]
theorem in_up {n m w : Nat} (hw : w ≠ 0) (hm : IN g m) : IN (va_up g n w) m := by
  rcases hm with hm | hm
  · exact Or.inl hm
  · refine Or.inr ?_
    by_cases e : m = n
    · subst e; rw [up_eq]; exact hw
    · rw [up_ne _ _ e]; exact hm
/-- a new node -/
theorem CAN.add (h : CAN W g D) {n k a b : Nat} (hn : g n = 0) (h2 : 2 ≤ n) (h3 : n < 16384) (hk : k < 10) (ha : IN g a) (hb : IN g b) (hab : a ≠ b) (da : ¬ dep (D a) k) (db : ¬ dep (D b) k) (hw : W k (iteF k (D a) (D b))) (hf : ∀ m : Nat, IN g m → D m ≠ iteF k (D a) (D b)) : CAN W (va_up g n (cd k a b)) (va_up D n (iteF k (D a) (D b))) := by
  have la := h.inlt ha
  have lb := h.inlt hb
  have nn : ∀ m : Nat, IN g m → m ≠ n := fun m hm e => by
    subst e
    rcases hm with hm | hm
    · omega
    · exact hm hn
  have hD : ∀ m : Nat, IN g m → va_up D n (iteF k (D a) (D b)) m = D m := fun m hm => up_ne _ _ (nn m hm)
  have hc := cd_ne (k := k) hab
  have hin : ∀ m : Nat, IN (va_up g n (cd k a b)) m → m = n ∨ IN g m := fun m hm => by
    by_cases e : m = n
    · exact Or.inl e
    · refine Or.inr ?_
      rcases hm with hm | hm
      · exact Or.inl hm
      · rw [up_ne _ _ e] at hm; exact Or.inr hm
  refine ⟨?_, ?_, fun m hm => ?_, fun m m' hm hm' e => ?_⟩
  · rw [hD 0 (Or.inl (by omega))]; exact h.1
  · rw [hD 1 (Or.inl (by omega))]; exact h.2.1
  · by_cases e : m = n
    · subst e
      rw [up_eq, nk_cd la lb, n0_cd la lb, n1_cd lb, up_eq, hD a ha, hD b hb]
      refine ⟨h2, h3, hk, in_up hc ha, in_up hc hb, ?_, ?_, hab, hw⟩
      · rw [cof_ite, if_neg (by decide), not_dep da]
      · rw [cof_ite, if_pos rfl, not_dep db]
    · rw [up_ne _ _ e] at hm
      rw [up_ne _ _ e, hD m (Or.inr hm), hD _ (h.i0 hm), hD _ (h.i1 hm)]
      exact ⟨h.ge hm, h.lt hm, h.k hm, in_up hc (h.i0 hm), in_up hc (h.i1 hm), h.c0 hm, h.c1 hm, h.ne hm, h.w hm⟩
  · rcases hin m hm with c | c <;> rcases hin m' hm' with c' | c'
    · rw [c, c']
    · rw [c, up_eq, hD m' c'] at e; exact absurd e.symm (hf m' c')
    · rw [c', up_eq, hD m c] at e; exact absurd e (hf m c)
    · rw [hD m c, hD m' c'] at e; exact h.inj c c' e
/-- a node with another input -/
theorem CAN.set (h : CAN W g D) {n k a b : Nat} (hn : g n ≠ 0) (hk : k < 10) (ha : IN g a) (hb : IN g b) (e0 : cof k false (D n) = D a) (e1 : cof k true (D n) = D b) (hd : dep (D n) k) (hw : W k (D n)) : CAN W (va_up g n (cd k a b)) D := by
  have la := h.inlt ha
  have lb := h.inlt hb
  have hab : a ≠ b := fun e => hd (by rw [e0, e1, e])
  have hc := cd_ne (k := k) hab
  have hin : ∀ m : Nat, IN (va_up g n (cd k a b)) m → IN g m := fun m hm => by
    rcases hm with hm | hm
    · exact Or.inl hm
    · by_cases e : m = n
      · subst e; exact Or.inr hn
      · rw [up_ne _ _ e] at hm; exact Or.inr hm
  refine ⟨h.1, h.2.1, fun m hm => ?_, fun m m' hm hm' e => h.inj (hin m hm) (hin m' hm') e⟩
  by_cases e : m = n
  · subst e
    rw [up_eq, nk_cd la lb, n0_cd la lb, n1_cd lb]
    exact ⟨h.ge hn, h.lt hn, hk, in_up hc ha, in_up hc hb, e0, e1, hab, hw⟩
  · rw [up_ne _ _ e] at hm
    rw [up_ne _ _ e]
    exact ⟨h.ge hm, h.lt hm, h.k hm, in_up hc (h.i0 hm), in_up hc (h.i1 hm), h.c0 hm, h.c1 hm, h.ne hm, h.w hm⟩
/-- a node goes to which none leads -/
theorem CAN.del (h : CAN W g D) {n : Nat} (hp : ∀ m : Nat, g m ≠ 0 → n0 (g m) ≠ n ∧ n1 (g m) ≠ n) : CAN W (va_up g n 0) D := by
  have hl : ∀ m : Nat, va_up g n 0 m ≠ 0 → m ≠ n ∧ g m ≠ 0 := fun m hm => by
    by_cases e : m = n
    · subst e; rw [up_eq] at hm; exact absurd rfl hm
    · rw [up_ne _ _ e] at hm; exact ⟨e, hm⟩
  have hk : ∀ m : Nat, IN g m → m ≠ n → IN (va_up g n 0) m := fun m hm e => by
    rcases hm with hm | hm
    · exact Or.inl hm
    · exact Or.inr (by rw [up_ne _ _ e]; exact hm)
  have hb : ∀ m : Nat, IN (va_up g n 0) m → IN g m := fun m hm => by
    rcases hm with hm | hm
    · exact Or.inl hm
    · exact Or.inr (hl m hm).2
  refine ⟨h.1, h.2.1, fun m hm => ?_, fun m m' hm hm' e => h.inj (hb m hm) (hb m' hm') e⟩
  obtain ⟨e, hm⟩ := hl m hm
  rw [up_ne _ _ e]
  exact ⟨h.ge hm, h.lt hm, h.k hm, hk _ (h.i0 hm) (hp m hm).1, hk _ (h.i1 hm) (hp m hm).2, h.c0 hm, h.c1 hm, h.ne hm, h.w hm⟩
end CANs
/-! how many lead to a number -/
def r1 (w c : Nat) : Nat := if w = 0 then 0 else (if n0 w = c then 1 else 0) + (if n1 w = c then 1 else 0)
def rf (g : Nat → Nat) (c : Nat) : Nat := sumTo (fun m => r1 (g m) c) 16384
def rr (rt : Nat → Nat) (c : Nat) : Nat := sumTo (fun p => if rt p = c then 1 else 0) 24
theorem sumTo_up {f f' : Nat → Nat} {n : Nat} (h : ∀ m : Nat, m ≠ n → f m = f' m) : ∀ N : Nat, n < N → sumTo f' N + f n = sumTo f N + f' n := by
  have lo : ∀ N : Nat, N ≤ n → sumTo f' N = sumTo f N := by
    intro N
    induction N with
    | zero => intro _; rfl
    | succ N ih => intro hN; rw [sumTo, sumTo, ih (by omega), h N (by omega)]
  intro N
  induction N with
  | zero => intro hN; exact absurd hN (by omega)
  | succ N ih =>
    intro hN
    rw [sumTo, sumTo]
    by_cases e : n = N
    · subst e; rw [lo n (Nat.le_refl _)]; omega
    · have := ih (by omega); rw [h N (by omega)]; omega
theorem sumTo_pos {f : Nat → Nat} : ∀ N : Nat, 0 < sumTo f N ↔ ∃ m : Nat, m < N ∧ 0 < f m := by
  intro N
  induction N with
  | zero => exact ⟨fun h => absurd h (by rw [sumTo]; omega), fun ⟨m, hm, _⟩ => absurd hm (by omega)⟩
  | succ N ih =>
    rw [sumTo]
    constructor
    · intro h
      by_cases c : 0 < f N
      · exact ⟨N, by omega, c⟩
      · obtain ⟨m, hm, h2⟩ := ih.mp (by omega)
        exact ⟨m, by omega, h2⟩
    · rintro ⟨m, hm, h2⟩
      by_cases c : m = N
      · subst c; omega
      · have := ih.mpr ⟨m, by omega, h2⟩; omega
theorem r1_0 (c : Nat) : r1 0 c = 0 := if_pos rfl
theorem r1_pos {w c : Nat} : 0 < r1 w c ↔ w ≠ 0 ∧ (n0 w = c ∨ n1 w = c) := by
  unfold r1
  by_cases h : w = 0
  · rw [if_pos h]; exact ⟨fun z => absurd z (by omega), fun z => absurd h z.1⟩
  · rw [if_neg h]
    by_cases a : n0 w = c <;> by_cases b : n1 w = c <;> simp [a, b, h]
theorem rf_up (g : Nat → Nat) {n : Nat} (hn : n < 16384) (w c : Nat) : rf (va_up g n w) c + r1 (g n) c = rf g c + r1 w c := by
  have := sumTo_up (f := fun m => r1 (g m) c) (f' := fun m => r1 (va_up g n w m) c) (n := n) (fun m hm => by rw [up_ne _ _ hm]) 16384 hn
  rw [up_eq] at this
  exact this
theorem rr_up (rt : Nat → Nat) {p : Nat} (hp : p < 24) (w c : Nat) : rr (va_up rt p w) c + (if rt p = c then 1 else 0) = rr rt c + (if w = c then 1 else 0) := by
  have := sumTo_up (f := fun m => if rt m = c then 1 else 0) (f' := fun m => if va_up rt p w m = c then 1 else 0) (n := p) (fun m hm => by rw [up_ne _ _ hm]) 24 hp
  rw [up_eq] at this
  exact this
def LED (g : Nat → Nat) (rt : Nat → Nat) (c : Nat) : Prop := (∃ m : Nat, g m ≠ 0 ∧ (n0 (g m) = c ∨ n1 (g m) = c)) ∨ ∃ p : Nat, p < 24 ∧ rt p = c
theorem led_iff {W : Nat → Fn → Prop} {g : Nat → Nat} {D : Nat → Fn} (h : CAN W g D) (rt : Nat → Nat) (c : Nat) : LED g rt c ↔ 0 < rf g c + rr rt c := by
  have a : 0 < rf g c ↔ ∃ m : Nat, g m ≠ 0 ∧ (n0 (g m) = c ∨ n1 (g m) = c) := by
    unfold rf
    rw [sumTo_pos]
    exact ⟨fun ⟨m, _, h2⟩ => ⟨m, r1_pos.mp h2⟩, fun ⟨m, h2⟩ => ⟨m, h.lt h2.1, r1_pos.mpr h2⟩⟩
  have b : 0 < rr rt c ↔ ∃ p : Nat, p < 24 ∧ rt p = c := by
    unfold rr
    rw [sumTo_pos]
    refine ⟨fun ⟨m, hm, h2⟩ => ⟨m, hm, ?_⟩, fun ⟨m, hm, h2⟩ => ⟨m, hm, ?_⟩⟩
    · refine Classical.byContradiction (fun z => ?_)
      rw [if_neg z] at h2
      omega
    · rw [if_pos h2]; omega
  unfold LED
  rw [← a, ← b]
  omega
/-! the order: which input a function asks first -/
def Wo (o : Nat → Nat) (k : Nat) (f : Fn) : Prop := ∃ i : Nat, i < 10 ∧ o i = k ∧ ∀ j : Nat, j < i → ¬ dep f (o j)
theorem Wo.uniq {o : Nat → Nat} {k i : Nat} {f : Fn} (h : Wo o k f) (hk : dep f k) (hi : dep f (o i)) (hb : ∀ j : Nat, j < i → ¬ dep f (o j)) : k = o i := by
  obtain ⟨l, _, rfl, h2⟩ := h
  by_cases c : i < l
  · exact absurd hi (h2 i c)
  · by_cases c2 : l < i
    · exact absurd hk (hb l c2)
    · rw [show l = i by omega]
theorem fx_s {o : Nat → Nat} (ho : PO o) {j : Nat} (hj : j < 10) (a : Asg) (f : Fn) : fx (bef o (j + 1)) a f = cof (o j) (a (o j)) (fx (bef o j) a f) := by
  funext x
  unfold fx cof
  congr 1
  funext k
  unfold mix
  rw [bef_s]
  by_cases hk : k = o j
  · subst hk
    rw [ho.bef_self hj, upA_s]
    simp
  · rw [upA_n _ _ hk, beq_eq_false_iff_ne.mpr (Ne.symm hk), Bool.or_false]
theorem fx_0 (o : Nat → Nat) (a : Asg) (f : Fn) : fx (bef o 0) a f = f := by
  funext x
  unfold fx
  congr 1
theorem fx_nd {B : Nat → Bool} {k : Nat} (hk : B k = true) (a : Asg) (f : Fn) : ¬ dep (fx B a f) k := by
  have e : ∀ c : Bool, cof k c (fx B a f) = fx B a f := fun c => by
    funext x
    unfold cof fx
    congr 1
    funext l
    unfold mix
    by_cases h : B l = true
    · rw [if_pos h, if_pos h]
    · rw [if_neg h, if_neg h, upA_n _ _ (fun z => h (by rw [z]; exact hk))]
  exact fun h => h (by rw [e, e])
theorem fx_dep {B : Nat → Bool} {k : Nat} {a : Asg} {f : Fn} (h : dep (fx B a f) k) : dep f k := by
  by_cases hk : B k = true
  · exact absurd h (fx_nd hk a f)
  · refine Classical.byContradiction (fun hn => h ?_)
    have e : ∀ c : Bool, cof k c (fx B a f) = fx B a f := fun c => by
      funext x
      have e1 : mix B a (upA x k c) = upA (mix B a x) k c := by
        funext l
        unfold mix
        by_cases hl : l = k
        · subst hl; rw [upA_s, if_neg hk, upA_s]
        · rw [upA_n _ _ hl, upA_n _ _ hl]
      show f (mix B a (upA x k c)) = f (mix B a x)
      rw [e1]
      exact congrFun (not_dep hn c) _
    rw [e, e]
/-- what doesn't ask is passed -/
theorem fx_jump {o : Nat → Nat} (ho : PO o) {i : Nat} (a : Asg) (f : Fn) : ∀ l : Nat, i ≤ l → l ≤ 10 → (∀ j : Nat, i ≤ j → j < l → ¬ dep (fx (bef o i) a f) (o j)) → fx (bef o l) a f = fx (bef o i) a f := by
  intro l
  induction l with
  | zero => intro hi _ _; rw [show i = 0 by omega]
  | succ l ih =>
    intro hi hl hd
    by_cases e : i = l + 1
    · rw [e]
    · rw [fx_s ho (by omega), ih (by omega) (by omega) (fun j h1 h2 => hd j h1 (by omega))]
      exact not_dep (hd l (by omega) (by omega)) _
theorem fx_id {o : Nat → Nat} (ho : PO o) {l : Nat} (hl : l ≤ 10) (a : Asg) {f : Fn} (hd : ∀ j : Nat, j < l → ¬ dep f (o j)) : fx (bef o l) a f = f := by
  have := fx_jump ho (i := 0) a f l (by omega) hl (fun j _ h2 => by rw [fx_0]; exact hd j h2)
  rw [this, fx_0]
/-! a good store of nodes -/
def ST (o : Nat → Nat) (F : Nat → Nat → Bool) (g : Nat → Nat) (D : Nat → Fn) (rt : Nat → Nat) : Prop :=
  CAN (Wo o) g D ∧ (∀ p : Nat, p < 24 → IN g (rt p) ∧ D (rt p) = fnOf (F p)) ∧ ∀ n : Nat, g n ≠ 0 → LED g rt n
section STs
variable {o : Nat → Nat} {F : Nat → Nat → Bool} {g : Nat → Nat} {D : Nat → Fn} {rt : Nat → Nat}
/-- from a number down -/
theorem CAN.walk (h : CAN (Wo o) g D) (ho : PO o) {c : Nat} (hc : IN g c) (a : Asg) : ∀ j : Nat, j ≤ 10 → ∃ m : Nat, IN g m ∧ D m = fx (bef o j) a (D c) := by
  intro j
  induction j with
  | zero => intro _; exact ⟨c, hc, by rw [fx_0]⟩
  | succ j ih =>
    intro hj
    obtain ⟨m, hm, e⟩ := ih (by omega)
    rw [fx_s ho (by omega), ← e]
    by_cases hd : dep (D m) (o j)
    · have hl := h.live hm hd
      have hb : ∀ i : Nat, i < j → ¬ dep (D m) (o i) := fun i hi => by
        rw [e]; exact fx_nd (bef_iff.mpr ⟨i, hi, rfl⟩) _ _
      have hk : nk (g m) = o j := (h.w hl).uniq (h.dp hl) hd hb
      cases a (o j)
      · exact ⟨_, h.i0 hl, by rw [← h.c0 hl, hk]⟩
      · exact ⟨_, h.i1 hl, by rw [← h.c1 hl, hk]⟩
    · exact ⟨m, hm, by rw [not_dep hd]⟩
theorem CAN.found (h : CAN (Wo o) g D) (ho : PO o) {c : Nat} (hc : IN g c) {a : Asg} {i : Nat} (hi : i < 10) (hd : dep (fx (bef o i) a (D c)) (o i)) : ∃ m : Nat, g m ≠ 0 ∧ nk (g m) = o i ∧ D m = fx (bef o i) a (D c) := by
  obtain ⟨m, hm, e⟩ := h.walk ho hc a i (by omega)
  rw [← e] at hd
  have hl := h.live hm hd
  refine ⟨m, hl, (h.w hl).uniq (h.dp hl) hd (fun j hj => ?_), e⟩
  rw [e]; exact fx_nd (bef_iff.mpr ⟨j, hj, rfl⟩) _ _
/-- each node is what is left of a function -/
theorem ST.sound (h : ST o F g D rt) (ho : PO o) : ∀ (i n : Nat), i < 10 → g n ≠ 0 → nk (g n) = o i → ∃ p : Nat, p < 24 ∧ ∃ a : Asg, D n = fx (bef o i) a (fnOf (F p)) := by
  intro i
  induction i using Nat.strongRecOn with
  | _ i ih =>
    intro n hi hn hk
    obtain ⟨hc, hr, hL⟩ := h
    have hb : ∀ j : Nat, j < i → ¬ dep (D n) (o j) := by
      obtain ⟨l, hl, e, h2⟩ := hc.w hn
      have : l = i := ho.2 l i hl hi (e.trans hk)
      subst this
      exact h2
    rcases hL n hn with ⟨m, hm, hch⟩ | ⟨p, hp, e⟩
    · obtain ⟨l, hl, e, h2⟩ := hc.w hm
      have hcc : ∃ c : Bool, D n = cof (o l) c (D m) := by
        rcases hch with z | z
        · exact ⟨false, by rw [← z, ← hc.c0 hm, e]⟩
        · exact ⟨true, by rw [← z, ← hc.c1 hm, e]⟩
      obtain ⟨c, ec⟩ := hcc
      have hdn : dep (D n) (o i) := by rw [← hk]; exact hc.dp hn
      have hli : l < i := by
        have h3 : dep (D m) (o i) := cof_dep (by rw [← ec]; exact hdn)
        have h4 : ¬ i < l := fun z => h2 i z h3
        have h5 : i ≠ l := fun z => by
          rw [ec, z] at hdn; exact not_dep_cof _ _ _ hdn
        omega
      obtain ⟨p, hp, a, ea⟩ := ih l hli m hl hm e.symm
      refine ⟨p, hp, upA a (o l) c, ?_⟩
      have e1 : fx (bef o (l + 1)) (upA a (o l) c) (fnOf (F p)) = D n := by
        rw [fx_s ho hl, upA_s, ec, ea]
        congr 1
        refine fx_congr (fun k hkb => upA_n _ _ (fun z => ?_)) _
        rw [z, ho.bef_self hl] at hkb
        exact absurd hkb (by decide)
      rw [← fx_jump ho (upA a (o l) c) (fnOf (F p)) i hli (by omega) (fun j h6 h7 => by rw [e1]; exact hb j h7)] at e1
      exact e1.symm
    · refine ⟨p, hp, fun _ => false, ?_⟩
      rw [← (hr p hp).2, e]
      exact (fx_id ho (by omega) _ hb).symm
theorem PR024 (p : Nat) : PR 0 24 p ↔ p < 24 := ⟨fun ⟨q, hq, e⟩ => by omega, fun h => ⟨p, h, by omega⟩⟩
theorem ST.qp (h : ST o F g D rt) (ho : PO o) {i : Nat} (hi : i < 10) (f : Fn) : QP (PR 0 24) F (bef o i) (o i) f ↔ ∃ n : Nat, (g n ≠ 0 ∧ nk (g n) = o i) ∧ D n = f := by
  constructor
  · rintro ⟨⟨p, hp, a, e⟩, hd⟩
    have hp := (PR024 p).mp hp
    obtain ⟨r1, r2⟩ := h.2.1 p hp
    rw [e, ← r2] at hd
    obtain ⟨m, m1, m2, m3⟩ := h.1.found ho r1 hi hd
    exact ⟨m, ⟨m1, m2⟩, by rw [m3, r2, e]⟩
  · rintro ⟨n, ⟨hn, hk⟩, e⟩
    obtain ⟨p, hp, a, ea⟩ := h.sound ho i n hi hn hk
    exact ⟨⟨p, (PR024 p).mpr hp, a, by rw [← e, ea]⟩, by rw [← e, ← hk]; exact h.1.dp hn⟩
/-- the nodes of an input are its questions -/
theorem ST.nq (h : ST o F g D rt) (ho : PO o) {i N : Nat} (hi : i < 10) (hc : Cnt (fun n => g n ≠ 0 ∧ nk (g n) = o i) N) : qn (PR 0 24) F o i = N := by
  refine cn_eq (hc.map D (fun n hn => ?_) (fun n m hn hm e => h.1.inj (Or.inr hn.1) (Or.inr hm.1) e) (fun f hf => (h.qp ho hi f).mp hf))
  exact (h.qp ho hi (D n)).mpr ⟨n, hn, rfl⟩
theorem live_cnt {W : Nat → Fn → Prop} (h : CAN W g D) (Q : Nat → Prop) : ∃ N : Nat, Cnt (fun n => g n ≠ 0 ∧ Q n) N := by
  obtain ⟨N, _, hN⟩ := Cnt.ex 16384 (fun i => i) (fun n => g n ≠ 0 ∧ Q n) (fun n hn => ⟨n, h.lt hn.1, rfl⟩)
  exact ⟨N, hN⟩
/-- the whole size -/
theorem ST.nw (h : ST o F g D rt) (ho : PO o) {N : Nat} (hc : Cnt (fun n => g n ≠ 0) N) : wh (PR 0 24) F o = N := by
  have go : ∀ j : Nat, j ≤ 10 → Cnt (fun n => g n ≠ 0 ∧ ∃ i : Nat, i < j ∧ nk (g n) = o i) (sumTo (qn (PR 0 24) F o) j) := by
    intro j
    induction j with
    | zero => intro _; exact Cnt.zero (fun n hn => by obtain ⟨_, i, hi, _⟩ := hn; omega)
    | succ j ih =>
      intro hj
      obtain ⟨M, hM⟩ := live_cnt h.1 (fun n => nk (g n) = o j)
      have e := h.nq ho (i := j) (by omega) hM
      rw [sumTo, e]
      refine ((ih (by omega)).union hM (fun n hn hn2 => ?_)).congr (fun n => ?_)
      · obtain ⟨_, i, hi, e1⟩ := hn
        have := ho.2 i j (by omega) (by omega) (e1.symm.trans hn2.2)
        omega
      · constructor
        · rintro (⟨h1, i, hi, h2⟩ | ⟨h1, h2⟩)
          · exact ⟨h1, i, by omega, h2⟩
          · exact ⟨h1, j, by omega, h2⟩
        · rintro ⟨h1, i, hi, h2⟩
          by_cases c : i = j
          · subst c; exact Or.inr ⟨h1, h2⟩
          · exact Or.inl ⟨h1, i, by omega, h2⟩
  refine ((go 10 (by omega)).congr (fun n => ⟨fun hn => hn.1, fun hn => ⟨hn, ?_⟩⟩)).uniq hc
  obtain ⟨i, hi, e⟩ := ho.sur (h.1.k hn)
  exact ⟨i, hi, e.symm⟩
end STs
