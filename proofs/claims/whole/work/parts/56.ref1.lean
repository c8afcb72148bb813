/-! the reference: what makes functions -/
def tk (f m : Nat → Int32) (p v : Nat) : Nat → Int32 := fun k => if 1024 * p ≤ k ∧ k < 1024 * p + v then m (k - 1024 * p) else f k
theorem tk_0 (f m : Nat → Int32) (p : Nat) : tk f m p 0 = f := by
  funext k
  exact if_neg (by omega)
theorem tk_step (f m : Nat → Int32) (p v : Nat) : upd (tk f m p v) (1024 * p + v) (m v) = tk f m p (v + 1) := by
  funext k
  by_cases hk : k = 1024 * p + v
  · subst hk
    rw [pk_us]
    unfold tk
    rw [if_pos (by omega)]
    congr 1
    omega
  · rw [pk_un hk]
    unfold tk
    by_cases h : 1024 * p ≤ k ∧ k < 1024 * p + v
    · rw [if_pos h, if_pos (by omega)]
    · rw [if_neg h, if_neg (by omega)]
def mkm (f : Nat → Int32) (g : Nat → Bool) (v : Nat) : Nat → Int32 := fun k => if k < v then bI (g k) else f k
theorem mkm_0 (f : Nat → Int32) (g : Nat → Bool) : mkm f g 0 = f := by
  funext k
  exact if_neg (by omega)
theorem mkm_step (f : Nat → Int32) (g : Nat → Bool) (v : Nat) : upd (mkm f g v) v (bI (g v)) = mkm f g (v + 1) := by
  funext k
  by_cases hk : k = v
  · subst hk
    rw [pk_us]
    exact (if_pos (by omega)).symm
  · rw [pk_un hk]
    unfold mkm
    by_cases h : k < v
    · rw [if_pos h, if_pos (by omega)]
    · rw [if_neg h, if_neg (by omega)]
def upF (F : Nat → Nat → Bool) (p : Nat) (g : Nat → Bool) : Nat → Nat → Bool := fun q v => if q = p then g v else F q v
theorem up_ne {α : Type} (f : Nat → α) {k j : Nat} (v : α) (h : j ≠ k) : va_up f k v j = f j := if_neg h
theorem up_eq {α : Type} (f : Nat → α) (k : Nat) (v : α) : va_up f k v k = v := if_pos rfl
theorem MF.made {F : Nat → Nat → Bool} {I : Nat → Nat → Int32} (h : MF F I) {i : Nat} (hi : 1 ≠ i) (f : Nat → Int32) : MF F (va_up I i f) := fun p hp v hv => by
  rw [up_ne I f hi]
  exact h p hp v hv
theorem MF.take {F : Nat → Nat → Bool} {I : Nat → Nat → Int32} (h : MF F I) {m : Nat → Int32} {g : Nat → Bool} (hm : ∀ v : Nat, v < 1024 → m v = bI (g v)) (p : Nat) : MF (upF F p g) (va_up I 1 (tk (I 1) m p 1024)) := fun q hq v hv => by
  rw [up_eq]
  unfold tk upF
  by_cases hqp : q = p
  · subst hqp
    rw [if_pos (by omega), if_pos rfl, show 1024 * q + v - 1024 * q = v by omega]
    exact hm v hv
  · rw [if_neg (by omega), if_neg hqp]
    exact h q hq v hv
section REF
variable {ad : Nat → Nat} {S : Nat → Int32} {I : Nat → Nat → Int32} {b u : PS} {F : Nat → Nat → Bool} {g : Nat → Bool}
theorem q_M_take_L {p : Nat} (hp : p < 24) (hm : ∀ v : Nat, v < 1024 → I 2 v = bI (g v)) {E : PS → Prop} (hE : ∀ u' : PS, VM ad S (va_up I 1 (tk (I 1) (I 2) p 1024)) b u' → E u') : ∀ (d v : Nat) (u : PS), v + d = 1024 → VM ad S (va_up I 1 (tk (I 1) (I 2) p v)) b u → p_M_take_L2 (ad 0) (nI p) E (d + 1) (nI v) u := by
  intro d
  induction d with
  | zero =>
    intro v u hv h
    obtain rfl : v = 1024 := by omega
    rw [p_M_take_L2]
    exact pk_le 1024 1024 (fun _ => hE u h) (fun h9 => absurd h9 (by omega))
  | succ d ih =>
    intro v u hv h
    rw [p_M_take_L2]
    refine pk_le 1024 v (fun h9 => absurd h9 (by omega)) (fun _ => ?_)
    refine ⟨_, h.fv rfl, _, h.fv rfl, _, h.za 2 (by decide) (by decide) rfl (vp_in_nI (by show v < 1024; omega) (by decide)), ?_⟩
    rw [nI_clamp (by omega), up_ne I _ (by decide), ix_tab]
    obtain ⟨u1, s1, h1⟩ := h.zs 1 (by decide) (by decide) rfl (j := nI (1024 * p + v)) (vp_in_nI (by show _ < 24576; omega) (by decide)) (x := I 2 v) (by rw [hm v (by omega)]; exact bI_z2 _)
    refine ⟨u1, s1, nm_e ?_⟩
    rw [nI_1]
    refine ih (v + 1) u1 (by omega) ?_
    rw [bx_uu, nI_clamp (by omega), up_eq, tk_step] at h1
    exact h1
theorem q_M_take (h : VM ad S I b u) {p : Nat} (hp : p < 24) (hm : ∀ v : Nat, v < 1024 → I 2 v = bI (g v)) {K : PS → Prop} (hK : ∀ u' : PS, VM ad S (va_up I 1 (tk (I 1) (I 2) p 1024)) b u' → K u') : p_M_take (ad 0) (nI p) u K := by
  unfold p_M_take
  refine ⟨1025, q_M_take_L hp hm hK 1024 0 u rfl ?_⟩
  rw [tk_0]
  have e : va_up I 1 (I 1) = I := by
    funext j
    by_cases hj : j = 1
    · subst hj
      exact up_eq _ _ _
    · exact up_ne _ _ hj
  rw [e]
  exact h
def two (k : Nat) (a c : Bool) : Bool := match k with
  | 0 => a && c
  | 1 => a || c
  | 2 => a != c
  | 3 => !a || c
  | 4 => a == c
  | _ => a && !c
theorem q_M_two {k : Nat} (hk : k < 6) {a c : Bool} {K : Int32 → PS → Prop} (hK : K (bI (two k a c)) u) : p_M_two (nI k) (bI a) (bI c) u K := by
  have z0 : xZ (0 : Int32) := Or.inl rfl
  have z1 : xZ (1 : Int32) := Or.inr rfl
  unfold p_M_two p_M_two_J58 p_M_two_J83
  have hk6 : k = 0 ∨ k = 1 ∨ k = 2 ∨ k = 3 ∨ k = 4 ∨ k = 5 := by omega
  rcases hk6 with rfl | rfl | rfl | rfl | rfl | rfl <;> cases a <;> cases c <;>
    (refine ⟨fun e0 => ?_, fun e1 => ?_, fun e2 => ?_, fun e3 => ?_, fun e4 => ?_, fun e0 e1 e2 e3 e4 => ?_⟩ <;>
      first
      | exact absurd e0 (by decide)
      | exact absurd e1 (by decide)
      | exact absurd e2 (by decide)
      | exact absurd e3 (by decide)
      | exact absurd e4 (by decide)
      | exact br_t (by decide) ⟨z0, hK⟩
      | exact br_t (by decide) ⟨z1, hK⟩
      | exact br_f (by decide) ⟨z0, hK⟩
      | exact br_f (by decide) ⟨z1, hK⟩
      | exact br_f (by decide) (br_t (by decide) ⟨z0, hK⟩)
      | exact br_f (by decide) (br_t (by decide) ⟨z1, hK⟩)
      | exact br_f (by decide) (br_f (by decide) ⟨z0, hK⟩)
      | exact br_f (by decide) (br_f (by decide) ⟨z1, hK⟩)
      | exact ⟨fun e => absurd rfl e, fun _ => br_t (by decide) ⟨z0, hK⟩⟩
      | exact ⟨fun e => absurd rfl e, fun _ => br_f (by decide) ⟨z1, hK⟩⟩
      | exact ⟨fun e => absurd rfl e, fun _ => ⟨z1, hK⟩⟩
      | exact ⟨fun _ => ⟨z1, hK⟩, fun e => absurd e (by decide)⟩
      | exact ⟨fun _ => ⟨z0, hK⟩, fun e => absurd e (by decide)⟩
      | exact br_f (by decide) ⟨fun _ => ⟨z0, hK⟩, fun e => absurd e (by decide)⟩
      | exact br_f (by decide) ⟨fun e => absurd rfl e, fun _ => ⟨z1, hK⟩⟩)
theorem q_M_make_L {p q r k : Nat} (hq : q < 24) (hr : r < 24) (hk : k < 6) (hF : MF F I) {E : PS → Prop} (hE : ∀ u' : PS, VM ad S (va_up I 2 (mkm (I 2) (fun v => two k (F q v) (F r v)) 1024)) b u' → E u') : ∀ (d v : Nat) (u : PS), v + d = 1024 → VM ad S (va_up I 2 (mkm (I 2) (fun v => two k (F q v) (F r v)) v)) b u → p_M_make_L68 (ad 0) (nI p) (nI k) (nI q) (nI r) E (d + 1) (nI v) u := by
  intro d
  induction d with
  | zero =>
    intro v u hv h
    obtain rfl : v = 1024 := by omega
    rw [p_M_make_L68]
    exact pk_le 1024 1024 (fun _ => hE u h) (fun h9 => absurd h9 (by omega))
  | succ d ih =>
    intro v u hv h
    rw [p_M_make_L68]
    refine pk_le 1024 v (fun h9 => absurd h9 (by omega)) (fun _ => ?_)
    have hF' := hF.made (i := 2) (by decide) (mkm (I 2) (fun v => two k (F q v) (F r v)) v)
    refine ⟨_, h.fv rfl, h.ob, q_M_is h hF' hq (by omega) ⟨h.ob, q_M_is h hF' hr (by omega) (q_M_two hk ?_)⟩⟩
    obtain ⟨u1, s1, h1⟩ := h.zs 2 (by decide) (by decide) rfl (j := nI v) (vp_in_nI (by show _ < 1024; omega) (by decide)) (bI_z2 (two k (F q v) (F r v)))
    refine ⟨u1, s1, nm_e ?_⟩
    rw [nI_1]
    refine ih (v + 1) u1 (by omega) ?_
    rw [bx_uu, nI_clamp (by omega), up_eq, mkm_step (I 2) (fun v => two k (F q v) (F r v)) v] at h1
    exact h1
end REF
