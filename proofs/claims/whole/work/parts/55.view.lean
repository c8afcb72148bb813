/-! a system's cells by names: ad i is the address of cell i (i < n), σ i what it holds; b is all else -/
def VW (n : Nat) (ad : Nat → Nat) (σ : Nat → PE) (b u : PS) : Prop :=
  (∀ i : Nat, i < n → u.1 (ad i) = some (σ i)) ∧ (∀ i j : Nat, i < n → j < n → ad i = ad j → i = j) ∧ (∀ q : Nat, (∀ i : Nat, i < n → q ≠ ad i) → u.1 q = b.1 q) ∧ u.2 = b.2
theorem VW.up {n : Nat} {ad : Nat → Nat} {σ : Nat → PE} {b u : PS} (h : VW n ad σ b u) {i : Nat} (hi : i < n) (e : PE) : VW n ad (va_up σ i e) b (x_up u (ad i) e) := by
  obtain ⟨h1, h2, h3, h4⟩ := h
  refine ⟨fun j hj => ?_, h2, fun q hq => ?_, h4⟩
  · by_cases hji : j = i
    · subst hji
      rw [x_up_s]
      exact congrArg some (if_pos rfl).symm
    · rw [x_up_n u e (fun he => hji (h2 j i hj hi he)), h1 j hj]
      exact congrArg some (if_neg hji).symm
  · rw [x_up_n u e (hq i hi)]
    exact h3 q hq
def bI (b : Bool) : Int32 := if b then 1 else 0
theorem bI_z (b : Bool) : xZ (bI b) := by cases b; exact Or.inl rfl; exact Or.inr rfl
theorem bI_z2 (b : Bool) : bI b = 0 ∨ bI b = 1 := bI_z b
theorem bI_0 (b : Bool) : bI b = 0 ↔ b = false := by cases b <;> decide
/-! the reference's cells: 0 the object, 1 tables, 2 made, 3 order, 4 left, 5 lows, 6 highs, 7 slots, 8 stamps, 9 questions, 10 kept, 11 done; numbers: 0 thrown, 1 pairs, 2 stamp -/
def mN (i : Nat) : Nat := match i with
  | 1 => 24576
  | 2 => 1024
  | 4 => 24576
  | 5 => 24576
  | 6 => 24576
  | 7 => 65536
  | 8 => 65536
  | _ => 10
def mT (i : Nat) : Nat := match i with
  | 1 => 4
  | 2 => 4
  | 11 => 4
  | _ => 0
def mO (ad : Nat → Nat) (S : Nat → Int32) : List Value := [.int (S 0), .ref (ad 1), .ref (ad 2), .ref (ad 3), .ref (ad 4), .int (S 1), .ref (ad 5), .ref (ad 6), .ref (ad 7), .ref (ad 8), .int (S 2), .ref (ad 9), .ref (ad 10), .ref (ad 11)]
def mS (ad : Nat → Nat) (S : Nat → Int32) (I : Nat → Nat → Int32) : Nat → PE := fun i => if i = 0 then .inr (6, mO ad S) else .inl (mT i, mN i, .inl (I i))
def VM (ad : Nat → Nat) (S : Nat → Int32) (I : Nat → Nat → Int32) (b u : PS) : Prop := VW 12 ad (mS ad S I) b u
section VMs
variable {ad : Nat → Nat} {S : Nat → Int32} {I : Nat → Nat → Int32} {b u : PS}
theorem VM.fv (h : VM ad S I b u) {k : Nat} {v : Value} (hk : (mO ad S)[k]? = some v) : x_fv u (ad 0) 6 k v := ⟨mO ad S, h.1 0 (by decide), hk⟩
theorem VM.ob (h : VM ad S I b u) : x_ob u (ad 0) 6 := ⟨_, h.1 0 (by decide)⟩
theorem VM.at (h : VM ad S I b u) (i : Nat) (hi : i < 12) (h0 : i ≠ 0) : u.1 (ad i) = some (.inl (mT i, mN i, .inl (I i))) := by
  rw [h.1 i hi]
  exact congrArg some (if_neg h0)
theorem VM.ia (h : VM ad S I b u) (i : Nat) (hi : i < 12) (h0 : i ≠ 0) (ht : mT i = 0) {j : Int32} (hj : vp_in j (mN i)) : x_ia u (ad i) j (I i j.toNatClampNeg) := ⟨mN i, I i, by rw [h.at i hi h0, ht], hj, rfl⟩
theorem VM.za (h : VM ad S I b u) (i : Nat) (hi : i < 12) (h0 : i ≠ 0) (ht : mT i = 4) {j : Int32} (hj : vp_in j (mN i)) : x_za u (ad i) j (I i j.toNatClampNeg) := ⟨mN i, I i, by rw [h.at i hi h0, ht], hj, rfl⟩
theorem VM.set (h : VM ad S I b u) (i : Nat) (hi : i < 12) (h0 : i ≠ 0) (f : Nat → Int32) : VM ad S (va_up I i f) b (x_up u (ad i) (.inl (mT i, mN i, .inl f))) := by
  have h1 := VW.up h hi (.inl (mT i, mN i, .inl f))
  have e : va_up (mS ad S I) i (.inl (mT i, mN i, .inl f)) = mS ad S (va_up I i f) := by
    funext j
    by_cases hj : j = i
    · subst hj
      simp [va_up, mS, h0]
    · by_cases hz : j = 0
      · subst hz
        simp [va_up, mS, Ne.symm h0]
      · simp [va_up, mS, hj, hz]
  rw [e] at h1
  exact h1
theorem VM.is (h : VM ad S I b u) (i : Nat) (hi : i < 12) (h0 : i ≠ 0) (ht : mT i = 0) {j : Int32} (hj : vp_in j (mN i)) (x : Int32) : ∃ u' : PS, x_is u (ad i) j x u' ∧ VM ad S (va_up I i (upd (I i) j.toNatClampNeg x)) b u' := by
  have h1 := h.set i hi h0 (upd (I i) j.toNatClampNeg x)
  rw [ht] at h1
  exact ⟨_, ⟨mN i, I i, by rw [h.at i hi h0, ht], hj, rfl⟩, h1⟩
theorem VM.zs (h : VM ad S I b u) (i : Nat) (hi : i < 12) (h0 : i ≠ 0) (ht : mT i = 4) {j : Int32} (hj : vp_in j (mN i)) {x : Int32} (hx : x = 0 ∨ x = 1) : ∃ u' : PS, x_zs u (ad i) j x u' ∧ VM ad S (va_up I i (upd (I i) j.toNatClampNeg x)) b u' := by
  have h1 := h.set i hi h0 (upd (I i) j.toNatClampNeg x)
  rw [ht] at h1
  exact ⟨_, ⟨mN i, I i, by rw [h.at i hi h0, ht], hj, hx, rfl⟩, h1⟩
theorem VM.pv (h : VM ad S I b u) (k s : Nat) (x : Int32) (hk : k < 14) (e : (mO ad S).set k (.int x) = mO ad (va_up S s x)) : ∃ u' : PS, x_pv u (ad 0) 6 k (.int x) u' ∧ VM ad (va_up S s x) I b u' := by
  have h1 := VW.up h (i := 0) (by decide) (.inr (6, mO ad (va_up S s x)))
  have e2 : va_up (mS ad S I) 0 (.inr (6, mO ad (va_up S s x))) = mS ad (va_up S s x) I := by
    funext j
    by_cases hj : j = 0
    · subst hj
      simp [va_up, mS]
    · simp [va_up, mS, hj]
  rw [e2] at h1
  exact ⟨_, ⟨mO ad S, h.1 0 (by decide), hk, by rw [e]⟩, h1⟩
-- the reference's small methods
theorem q_M_in {x lo hi : Int32} {K : Int32 → PS → Prop} (hK : K (bI (decide (lo ≤ x ∧ x ≤ hi))) u) : p_M_in x lo hi u K := by
  unfold p_M_in
  by_cases h1 : x < lo
  · have h2 : ¬ (lo ≤ x ∧ x ≤ hi) := fun h => (Int32.not_le.mpr h1) h.1
    rw [show decide (lo ≤ x ∧ x ≤ hi) = false from decide_eq_false h2] at hK
    exact br_t h1 ⟨Or.inl rfl, hK⟩
  · refine br_f h1 ?_
    by_cases h3 : hi < x
    · have h2 : ¬ (lo ≤ x ∧ x ≤ hi) := fun h => (Int32.not_le.mpr h3) h.2
      rw [show decide (lo ≤ x ∧ x ≤ hi) = false from decide_eq_false h2] at hK
      exact br_t h3 ⟨Or.inl rfl, hK⟩
    · rw [show decide (lo ≤ x ∧ x ≤ hi) = true from decide_eq_true ⟨Int32.not_lt.mp h1, Int32.not_lt.mp h3⟩] at hK
      exact br_f h3 ⟨Or.inr rfl, hK⟩
def okP (x : Int32) : Bool := decide ((0 : Int32) ≤ x ∧ x ≤ 23)
def okI (x : Int32) : Bool := decide ((0 : Int32) ≤ x ∧ x ≤ 9)
theorem q_M_isPlace {x : Int32} {K : Int32 → PS → Prop} (hK : K (bI (okP x)) u) : p_M_isPlace x u K := by
  unfold p_M_isPlace
  exact q_M_in ⟨bI_z _, hK⟩
theorem q_M_isInput {x : Int32} {K : Int32 → PS → Prop} (hK : K (bI (okI x)) u) : p_M_isInput x u K := by
  unfold p_M_isInput
  exact q_M_in ⟨bI_z _, hK⟩
theorem q_M_refuse (h : VM ad S I b u) {c d : Bool} {K : Int32 → PS → Prop} (hK : ∀ (u' : PS) (t : Int32), t = (if c then 1 else if d then 2 else 0) → VM ad (va_up S 0 t) I b u' → K (bI (c || d)) u') : p_M_refuse (ad 0) (bI c) (bI d) u K := by
  have go : ∀ t : Int32, t = (if c then 1 else if d then 2 else 0) → p_M_refuse_J18 K (ad 0) (ad 0) t u := by
    intro t ht
    unfold p_M_refuse_J18
    obtain ⟨u1, e1, h1⟩ := h.pv 0 0 t (by decide) rfl
    refine ⟨u1, e1, t, h1.fv rfl, ?_⟩
    have hk := hK u1 t ht h1
    cases c <;> cases d <;> subst ht
    · exact br_t (by decide) ⟨Or.inl rfl, hk⟩
    · exact br_f (by decide) ⟨Or.inr rfl, hk⟩
    · exact br_f (by decide) ⟨Or.inr rfl, hk⟩
    · exact br_f (by decide) ⟨Or.inr rfl, hk⟩
  unfold p_M_refuse
  cases c
  · refine br_t rfl ?_
    cases d
    · exact br_t rfl (go 0 rfl)
    · exact br_f (by decide) (go 2 rfl)
  · exact br_f (by decide) (go 1 rfl)
/-- the tables hold the functions -/
def MF (F : Nat → Nat → Bool) (I : Nat → Nat → Int32) : Prop := ∀ p : Nat, p < 24 → ∀ v : Nat, v < 1024 → I 1 (1024 * p + v) = bI (F p v)
theorem ix_tab {p v : Nat} : (1024 : Int32) * nI p + nI v = nI (1024 * p + v) := by
  rw [show (1024 : Int32) = nI 1024 from rfl, pk_mul, nI_add]
theorem q_M_is (h : VM ad S I b u) {F : Nat → Nat → Bool} (hF : MF F I) {p v : Nat} (hp : p < 24) (hv : v < 1024) {K : Int32 → PS → Prop} (hK : K (bI (F p v)) u) : p_M_is (ad 0) (nI p) (nI v) u K := by
  unfold p_M_is
  refine ⟨_, h.fv rfl, _, h.za 1 (by decide) (by decide) rfl (by rw [ix_tab]; exact vp_in_nI (by show _ < 24576; omega) (by decide)), ?_⟩
  rw [ix_tab, nI_clamp (by omega), hF p hp v hv]
  exact ⟨bI_z _, hK⟩
end VMs
