/-! the house and the reference at the start -/
def offL : List Nat := [0, 1, 29, 49, 30, 58, 27, 31, 32, 44, 45, 46, 47, 48, 34, 35, 36, 37, 38, 39, 40, 41, 42, 43, 59, 60, 61, 62, 63, 64, 50, 51, 52, 54, 55, 56, 57, 65, 66, 67, 68, 53, 3, 4, 5, 6, 7, 8, 9, 10, 11, 12, 13, 14, 15, 16, 17, 18, 19, 20, 21, 22, 23, 24, 25, 26, 28, 2, 33]
def off (i : Nat) : Nat := offL.getD i 0
theorem off_lt : ∀ i : Nat, i < 69 → off i < 69 := by decide +kernel
theorem off_inj : ∀ i : Nat, i < 69 → ∀ j : Nat, j < 69 → off i = off j → i = j := by decide +kernel
theorem off_42 : ∀ p : Nat, p < 24 → off (42 + p) = 3 + p := by decide +kernel
theorem off_14 : ∀ p : Nat, p < 10 → off (14 + p) = 34 + p := by decide +kernel
def adC (sz i : Nat) : Nat := sz + off i
def adM (sz i : Nat) : Nat := sz + (69 + i)
def PX (sz q : Nat) : Prop := sz + 69 ≤ q ∧ q < sz + 82
def S0 : Nat → Nat := fun s => if s = 0 then 16777215 else if s = 3 then 1 else if s = 7 then 26 else if s = 9 then 2 else 0
def I0 : Nat → Nat → Nat := fun i => if i = 7 then va_up (va_up (fun _ => 0) 0 2684354560) 1 2684354560 else if i = 8 then va_up (va_up (fun _ => 0) 0 1073741824) 1 1073741824 else if i = 37 then op 10 else fun _ => 0
def ln0 : Nat → Nat := fun i => if i = 6 then 24 else if i < 9 then 64 else if i = 9 then 10 else if i < 14 then 64 else if i < 24 then 8 else if i < 28 then 64 else if i < 30 then 11 else if i = 30 then 10 else if i < 33 then 32 else if i < 35 then 16 else if i < 38 then 10 else if i = 38 then 24 else 10
def L0 : Nat → Nat → Int64 := fun _ _ => 0
def IM0 : Nat → Nat → Int32 := fun i => if i = 3 then fun j => nI (op 10 j) else fun _ => 0
def FF0 : Nat → Nat → Bool := fun _ _ => false
def DD0 : Nat → Fn := fun n _ => n == 1
section STA
variable {sz s : Nat} {f f0 : Nat → PE} {u : PS}
theorem st_R (sz : Nat) (f0 : Nat → PE) : fH sz f0 (off 67) = cR (adC sz) := by
  have e : (fun i => if i < 24 then some (sz + 2 + 1 + i) else none) = rwF (adC sz) := by
    funext p
    unfold rwF adC
    by_cases c : p < 24
    · rw [if_pos c, if_pos c, off_42 p c, show sz + 2 + 1 + p = sz + (3 + p) by omega]
    · rw [if_neg c, if_neg c]
  unfold cR
  rw [← e]
  rfl
theorem st_M (sz : Nat) (f0 : Nat → PE) : fH sz f0 (off 68) = cM (adC sz) := by
  have e : (fun i => if i < 10 then some (sz + 33 + 1 + i) else none) = mbF (adC sz) := by
    funext p
    unfold mbF adC
    by_cases c : p < 10
    · rw [if_pos c, if_pos c, off_14 p c, show sz + 33 + 1 + p = sz + (34 + p) by omega]
    · rw [if_neg c, if_neg c]
  unfold cM
  rw [← e]
  rfl
theorem st_cells (sz : Nat) (f0 : Nat → PE) : ∀ i : Nat, i < 69 → fH sz f0 (off i) = cS (adC sz) S0 I0 ln0 L0 i := by
  refine all_s ?_ (st_M sz f0)
  refine all_s ?_ (st_R sz f0)
  repeat (refine all_t ?_ ?_; exact rfl)
  exact all_0
theorem st_VC (h : CV sz 82 s f u) (hf : ∀ j : Nat, j < 69 → f j = fH sz f0 j) : VC 69 (adC sz) S0 I0 ln0 L0 (PX sz, u.1) (sz + 82, s) u := by
  refine ⟨fun i hi => ?_, fun i j hi hj e => off_inj i hi j hj (by unfold adC at e; omega), fun i hi => ?_, fun q hq => ⟨hq.2, rfl⟩, h.2⟩
  · have w := off_lt i hi
    rw [← st_cells sz f0 i hi, ← hf _ w]
    exact h.1 _ (by omega)
  · have w := off_lt i hi
    unfold adC
    exact ⟨by show sz + off i < sz + 82; omega, fun q => by have := q.1; omega⟩
theorem sum_0 {g : Nat → Nat} (h : ∀ m : Nat, g m = 0) : ∀ N : Nat, sumTo g N = 0 := by
  intro N
  induction N with
  | zero => rfl
  | succ N ih => show sumTo g N + g N = 0; rw [ih, h]
theorem st_rf (c : Nat) : rf (fun _ => 0) c = 0 := sum_0 (fun m => by unfold r1; exact if_pos rfl) 16384
theorem st_rr (c : Nat) : rr (fun _ => 0) c = if c = 0 then 24 else 0 := by
  by_cases h : c = 0
  · subst h; decide +kernel
  · rw [if_neg h]
    exact sum_0 (fun m => if_neg (fun q => h q.symm)) 24
theorem st_RC : RC 6 (fun _ => 0) (fun _ => 0) (fun _ => 0) (I0 8) := fun c hc => by
  rw [st_rf, st_rr]
  by_cases c0 : c = 0
  · subst c0; decide +kernel
  · by_cases c1 : c = 1
    · subst c1; decide +kernel
    · rw [if_neg c0, if_neg (by omega)]
      show va_up (va_up (fun _ => 0) 0 1073741824) 1 1073741824 c = _
      rw [up_ne _ _ c1, up_ne _ _ c0]
      rfl
theorem st_nd (f : Nat → Bool) (hf : ∀ v : Nat, f v = false) (k : Nat) : ¬ dep (fnOf f) k := fun w => w (by
  funext x
  unfold cof fnOf
  rw [hf, hf])
theorem st_DS : DS 6 (fun _ => 0) (fun _ => False) S0 I0 ln0 := by
  refine ⟨fun n h1 h2 => absurd (show n < 2 from h2) (by omega), ⟨rfl, rfl⟩, fun n h => absurd rfl h, by decide, fun j hj => ⟨[], rfl, List.nodup_nil, fun n => ⟨fun q => absurd q List.not_mem_nil, fun q => absurd rfl q.1.1⟩⟩, ⟨[], rfl, List.nodup_nil, fun n => ⟨fun q => absurd q List.not_mem_nil, fun q => absurd (show n < 2 from q.2.1) (by have := q.1; omega)⟩, rfl⟩, ⟨fun k i hk hi => absurd (show i < 0 from hi) (by omega), fun n hn => absurd rfl hn.1⟩, fun k hk => Nat.zero_le _⟩
theorem st_ST : ST (op 10) FF0 (fun _ => 0) DD0 (fun _ => 0) := by
  refine ⟨⟨rfl, rfl, fun n h => absurd rfl h, fun n m hn hm e => ?_⟩, fun p hp => ⟨Or.inl (show 0 < 2 by decide), rfl⟩, fun n h => absurd rfl h⟩
  have hn2 : n < 2 := hn.resolve_right (fun q => q rfl)
  have hm2 : m < 2 := hm.resolve_right (fun q => q rfl)
  have e1 : (n == 1) = (m == 1) := congrFun e (fun _ => false)
  rcases (by omega : n = 0 ∨ n = 1) with rfl | rfl <;> rcases (by omega : m = 0 ∨ m = 1) with rfl | rfl
  · rfl
  · exact absurd e1 (by decide)
  · exact absurd e1 (by decide)
  · rfl
theorem st_SH : SH (sz + 82, s) S0 ln0 (sz + 82, s) 6 := by
  refine ⟨by decide, by decide, ⟨rfl, rfl, rfl, rfl, rfl, rfl, rfl⟩, rfl, ?_, Nat.le_add_right _ _, Nat.le_add_right _ _⟩
  decide +kernel
theorem st_WB (i : Nat) : WB 0 i = false := by
  unfold WB
  show (0#64).getLsbD i = false
  exact BitVec.getLsbD_zero
theorem st_FK : FK FF0 S0 I0 L0 := by
  refine ⟨fun p hp => ⟨show 0 < 1024 by decide, fun v hv => rfl, fun v hv => (st_WB _).symm⟩, by decide, by decide, fun p hp _ => ⟨fun k hk h => ?_, ?_⟩⟩
  · have : (0 : Nat).testBit k = true := h
    rw [Nat.zero_testBit] at this
    exact absurd this (by decide)
  · show (0 : Nat).testBit p = brd 0
    rw [Nat.zero_testBit]
    rfl
theorem st_PO : PO (op 10) := ⟨fun i hi => by rw [op_v 10 i hi]; exact hi, fun i j hi hj e => by rw [op_v 10 i hi, op_v 10 j hj] at e; exact e⟩
theorem st_MOK : MOK FF0 I0 := fun k hk => ⟨by show 0 < 1024; decide, fun y hy => ⟨fun h => by
    have : (0 : Nat).testBit y = true := h
    rw [Nat.zero_testBit] at this
    exact absurd this (by decide), fun ⟨p, _, ⟨a, b, _, _, _, h, _⟩, _⟩ => absurd h (st_nd _ (fun _ => rfl) a)⟩⟩
theorem st_HS (h : CV sz 82 s f u) (hf : ∀ j : Nat, j < 69 → f j = fH sz f0 j) : HS (0, 0) L0 (PX sz, u.1) (sz + 82, s) FF0 FF0 (op 10) (fun _ => 0) (adC sz) S0 I0 ln0 (sz + 82, s) u 6 6 (fun _ => 0) DD0 := by
  refine ⟨⟨st_VC h hf, st_SH, st_DS, st_RC, st_ST, by decide⟩, st_FK, ⟨fun j hj => rfl, fun p hp => rfl⟩, ⟨rfl, rfl, rfl, rfl, rfl, rfl, rfl, rfl, rfl, rfl, rfl, rfl⟩, st_PO, ⟨Or.inr rfl, fun _ => st_MOK⟩, ⟨⟨by decide, rfl, rfl, rfl, rfl, rfl, rfl⟩, by decide⟩, ⟨fun m => Nat.zero_le _, Nat.le_refl _⟩, fun m => Nat.zero_le _, Nat.le_refl _⟩
theorem st_CHG : CHG FF0 FF0 S0 := ⟨by decide, fun p hp _ => ⟨rfl, all24 p hp⟩⟩
theorem st_CS (h : CV sz 82 s f u) (hf : ∀ j : Nat, j < 69 → f j = fH sz f0 j) (h81 : f 81 = .inl (1, 1, .inr (.inl (fun _ => 0)))) : CS sz (PX sz) (sz + 81) (sz + 82, s) 0 FF0 (op 10) u :=
  ⟨⟨⟨by omega, by omega⟩, ⟨fun _ => 0, by rw [h.1 81 (by decide), h81]⟩⟩, (0, 0), (sz + 82, s), L0, FF0, fun _ => 0, adC sz, S0, I0, ln0, (sz + 82, s), 6, 6, fun _ => 0, DD0, rfl, st_HS h hf, st_CHG, ⟨Nat.le_refl _, Nat.le_refl _, Nat.le_refl _, Nat.le_refl _⟩⟩
theorem st_RM (h : CV sz 82 s f u) (hf : ∀ i : Nat, i < 12 → f (69 + i) = mS (adM sz) (fun _ => 0) IM0 i) : RM (adM sz) u FF0 (op 10) 0 0 u := by
  refine ⟨fun _ => 0, IM0, ⟨fun i hi => ?_, fun i j hi hj e => by unfold adM at e; omega, fun _ _ => rfl, rfl⟩, fun p hp v hv => rfl, fun i hi => rfl, rfl, 0, Nat.le_refl _, rfl, fun j hj => ⟨0, Nat.le_refl _, rfl⟩⟩
  rw [← hf i hi]
  exact h.1 _ (by omega)
end STA
