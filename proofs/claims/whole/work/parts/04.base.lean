/-! my own layer over the kit's rows: the heap as a map of cells with their contents (PS), a walk's world in one hypothesis (XW), contracts with an exact end (XMet) -/
abbrev PE : Type := (Nat × vp_A) ⊕ (Nat × List Value)
abbrev PS : Type := (Nat → Option PE) × Nat × Nat
abbrev XZ : Type := va_G × (Nat → ClassId) × (Nat → Nat) × State
abbrev XI : Type := MethodName × ByteArray × Nat × Option FieldType × List Cond × Nat × Nat
def x_E (cA : Nat → ClassId) (e : PE) : va_E := match e with
  | .inl a => .inl (cA a.1, a.2)
  | .inr o => .inr o
abbrev x_T (cA : Nat → ClassId) : List (ClassId × FieldType) := [(cA 0, .int), (cA 1, .long), (cA 2, .array .int), (cA 3, .array .long), (cA 4, .boolean)]
def x_le (u v : PS) : Prop := u.2.1 ≤ v.2.1 ∧ u.2.2 ≤ v.2.2
theorem x_le.rf (u : PS) : x_le u u := ⟨Nat.le_refl _, Nat.le_refl _⟩
theorem x_le.tr {u v w : PS} (h : x_le u v) (k : x_le v w) : x_le u w := ⟨Nat.le_trans h.1 k.1, Nat.le_trans h.2 k.2⟩
def x_up (u : PS) (a : Nat) (e : PE) : PS := (va_up u.1 a (some e), u.2)
theorem x_up_s (u : PS) (a : Nat) (e : PE) : (x_up u a e).1 a = some e := if_pos rfl
theorem x_up_n (u : PS) {a b : Nat} (e : PE) (h : b ≠ a) : (x_up u a e).1 b = u.1 b := if_neg h
/-- a new cell -/
def x_nw (u : PS) (e : PE) (n : Nat) : PS := (va_up u.1 u.2.1 (some e), u.2.1 + 1, u.2.2 + n)
-- what an instruction asks of the heap, and what it does to it
def x_fv (u : PS) (a ci k : Nat) (v : Value) : Prop := ∃ fs : List Value, u.1 a = some (.inr (ci, fs)) ∧ fs[k]? = some v
abbrev x_fi (u : PS) (a ci k : Nat) (x : Int32) : Prop := x_fv u a ci k (.int x)
abbrev x_fl (u : PS) (a ci k : Nat) (x : Int64) : Prop := x_fv u a ci k (.long x)
abbrev x_fr (u : PS) (a ci k : Nat) (x : Nat) : Prop := x_fv u a ci k (.ref x)
def x_ob (u : PS) (a ci : Nat) : Prop := ∃ fs : List Value, u.1 a = some (.inr (ci, fs))
def x_pv (u : PS) (a ci k : Nat) (v : Value) (u' : PS) : Prop := ∃ fs : List Value, u.1 a = some (.inr (ci, fs)) ∧ k < fs.length ∧ u' = x_up u a (.inr (ci, fs.set k v))
def xZ (x : Int32) : Prop := x = 0 ∨ x = 1
def x_ia (u : PS) (a : Nat) (i x : Int32) : Prop := ∃ (n : Nat) (f : Nat → Int32), u.1 a = some (.inl (0, n, .inl f)) ∧ vp_in i n ∧ f i.toNatClampNeg = x
def x_la (u : PS) (a : Nat) (i : Int32) (x : Int64) : Prop := ∃ (n : Nat) (f : Nat → Int64), u.1 a = some (.inl (1, n, .inr (.inl f))) ∧ vp_in i n ∧ f i.toNatClampNeg = x
def x_ra (u : PS) (t a : Nat) (i : Int32) (b : Nat) : Prop := ∃ (n : Nat) (f : Nat → Option Nat), u.1 a = some (.inl (t, n, .inr (.inr (.inr (.inr f))))) ∧ vp_in i n ∧ f i.toNatClampNeg = some b
def x_za (u : PS) (a : Nat) (i x : Int32) : Prop := ∃ (n : Nat) (f : Nat → Int32), u.1 a = some (.inl (4, n, .inl f)) ∧ vp_in i n ∧ f i.toNatClampNeg = x
def x_zs (u : PS) (a : Nat) (i x : Int32) (u' : PS) : Prop := ∃ (n : Nat) (f : Nat → Int32), u.1 a = some (.inl (4, n, .inl f)) ∧ vp_in i n ∧ (x = 0 ∨ x = 1) ∧ u' = x_up u a (.inl (4, n, .inl (upd f i.toNatClampNeg x)))
def x_is (u : PS) (a : Nat) (i x : Int32) (u' : PS) : Prop := ∃ (n : Nat) (f : Nat → Int32), u.1 a = some (.inl (0, n, .inl f)) ∧ vp_in i n ∧ u' = x_up u a (.inl (0, n, .inl (upd f i.toNatClampNeg x)))
def x_ls (u : PS) (a : Nat) (i : Int32) (x : Int64) (u' : PS) : Prop := ∃ (n : Nat) (f : Nat → Int64), u.1 a = some (.inl (1, n, .inr (.inl f))) ∧ vp_in i n ∧ u' = x_up u a (.inl (1, n, .inr (.inl (vp_updL f i.toNatClampNeg x))))
def x_rs (u : PS) (t tc a : Nat) (i : Int32) (b : Nat) (u' : PS) : Prop := ∃ (n : Nat) (f : Nat → Option Nat) (z : vp_A), u.1 a = some (.inl (t, n, .inr (.inr (.inr (.inr f))))) ∧ u.1 b = some (.inl (tc, z)) ∧ vp_in i n ∧ u' = x_up u a (.inl (t, n, .inr (.inr (.inr (.inr (va_up f i.toNatClampNeg (some b)))))))
def x_an (u : PS) (t a : Nat) (n : Int32) : Prop := ∃ z : vp_A, u.1 a = some (.inl (t, z)) ∧ Int32.ofNat z.1 = n
def x_ni (u : PS) (n : Int32) (a : Nat) (u' : PS) : Prop := ¬ n < 0 ∧ n.toNatClampNeg * 4 ≤ 536870912 ∧ a = u.2.1 ∧ u' = x_nw u (.inl (0, n.toNatClampNeg, .inl (fun _ => 0))) n.toNatClampNeg
def x_nl (u : PS) (n : Int32) (a : Nat) (u' : PS) : Prop := ¬ n < 0 ∧ n.toNatClampNeg * 8 ≤ 536870912 ∧ a = u.2.1 ∧ u' = x_nw u (.inl (1, n.toNatClampNeg, .inr (.inl (fun _ => 0)))) n.toNatClampNeg
def x_nz (u : PS) (n : Int32) (a : Nat) (u' : PS) : Prop := ¬ n < 0 ∧ n.toNatClampNeg ≤ 536870912 ∧ a = u.2.1 ∧ u' = x_nw u (.inl (4, n.toNatClampNeg, .inl (fun _ => 0))) n.toNatClampNeg
def x_no (u : PS) (ci : Nat) (fs : List Value) (a : Nat) (u' : PS) : Prop := a = u.2.1 ∧ u' = x_nw u (.inr (ci, fs)) fs.length
def x_cp (u : PS) (a : Nat) (sp : Int32) (b : Nat) (dp n : Int32) (u' : PS) : Prop := ∃ (n0 n1 : Nat) (f g : Nat → Int32), u.1 a = some (.inl (0, n0, .inl f)) ∧ u.1 b = some (.inl (0, n1, .inl g)) ∧ ¬ sp < 0 ∧ ¬ dp < 0 ∧ ¬ n < 0 ∧ sp.toNatClampNeg + n.toNatClampNeg ≤ n0 ∧ dp.toNatClampNeg + n.toNatClampNeg ≤ n1 ∧ u' = x_up u b (.inl (0, n1, .inl (va_cpy f g sp.toNatClampNeg dp.toNatClampNeg n.toNatClampNeg)))
/-- a grid: the outer array, then its rows, in one stretch -/
def x_gr (u : PS) (t tc N K : Nat) (z : vp_A) : PS := (fun q => if q = u.2.1 then some (.inl (t, N, .inr (.inr (.inr (.inr (fun i => if i < N then some (u.2.1 + 1 + i) else none)))))) else if u.2.1 < q ∧ q < u.2.1 + 1 + N then some (.inl (tc, z)) else u.1 q, u.2.1 + 1 + N, u.2.2 + (N + N * K))
def x_gn (u : PS) (t tc : Nat) (n k : Int32) (z : Nat → vp_A) (a : Nat) (u' : PS) : Prop := ¬ n < 0 ∧ ¬ k < 0 ∧ n.toNatClampNeg * 4 ≤ 536870912 ∧ k.toNatClampNeg * 8 ≤ 536870912 ∧ a = u.2.1 ∧ u' = x_gr u t tc n.toNatClampNeg k.toNatClampNeg (z k.toNatClampNeg)
theorem x_up.le (u : PS) (a : Nat) (e : PE) : x_le u (x_up u a e) := x_le.rf u
theorem x_nw.le (u : PS) (e : PE) (n : Nat) : x_le u (x_nw u e n) := ⟨Nat.le_succ _, Nat.le_add_right _ _⟩
theorem x_pv.le {u u' : PS} {a ci k : Nat} {v : Value} (h : x_pv u a ci k v u') : x_le u u' := by obtain ⟨fs, -, -, rfl⟩ := h; exact x_le.rf u
theorem x_is.le {u u' : PS} {a : Nat} {i x : Int32} (h : x_is u a i x u') : x_le u u' := by obtain ⟨n, f, -, -, rfl⟩ := h; exact x_le.rf u
theorem x_zs.le {u u' : PS} {a : Nat} {i x : Int32} (h : x_zs u a i x u') : x_le u u' := by obtain ⟨n, f, -, -, -, rfl⟩ := h; exact x_le.rf u
theorem x_nz.le {u u' : PS} {n : Int32} {a : Nat} (h : x_nz u n a u') : x_le u u' := by obtain ⟨-, -, -, rfl⟩ := h; exact x_nw.le _ _ _
theorem x_ls.le {u u' : PS} {a : Nat} {i : Int32} {x : Int64} (h : x_ls u a i x u') : x_le u u' := by obtain ⟨n, f, -, -, rfl⟩ := h; exact x_le.rf u
theorem x_rs.le {u u' : PS} {t tc a b : Nat} {i : Int32} (h : x_rs u t tc a i b u') : x_le u u' := by obtain ⟨n, f, z, -, -, -, rfl⟩ := h; exact x_le.rf u
theorem x_ni.le {u u' : PS} {n : Int32} {a : Nat} (h : x_ni u n a u') : x_le u u' := by obtain ⟨-, -, -, rfl⟩ := h; exact x_nw.le _ _ _
theorem x_nl.le {u u' : PS} {n : Int32} {a : Nat} (h : x_nl u n a u') : x_le u u' := by obtain ⟨-, -, -, rfl⟩ := h; exact x_nw.le _ _ _
theorem x_no.le {u u' : PS} {ci a : Nat} {fs : List Value} (h : x_no u ci fs a u') : x_le u u' := by obtain ⟨-, rfl⟩ := h; exact x_nw.le _ _ _
theorem x_cp.le {u u' : PS} {a b : Nat} {sp dp n : Int32} (h : x_cp u a sp b dp n u') : x_le u u' := by obtain ⟨_, _, _, _, -, -, -, -, -, -, -, rfl⟩ := h; exact x_le.rf u
theorem x_gr.le (u : PS) (t tc N K : Nat) (z : vp_A) : x_le u (x_gr u t tc N K z) := ⟨by show u.2.1 ≤ u.2.1 + 1 + N; omega, Nat.le_add_right _ _⟩
def kV (K : PS → Prop) : Option Value → PS → Prop := fun rv u => rv = none ∧ K u
def kI (K : Int32 → PS → Prop) : Option Value → PS → Prop := fun rv u => ∃ r : Int32, rv = some (.int r) ∧ K r u
def kJ (K : Int64 → PS → Prop) : Option Value → PS → Prop := fun rv u => ∃ r : Int64, rv = some (.long r) ∧ K r u
def kA (K : Nat → PS → Prop) : Option Value → PS → Prop := fun rv u => ∃ r : Nat, rv = some (.ref r) ∧ K r u
theorem x_gn.le {u u' : PS} {t tc a : Nat} {n k : Int32} {z : Nat → vp_A} (h : x_gn u t tc n k z a u') : x_le u u' := by obtain ⟨-, -, -, -, -, rfl⟩ := h; exact x_gr.le _ _ _ _ _ _
-- the world
def x_M (Z : XZ) (u : PS) (H : Heap) : Prop := (∀ (a : Nat) (e : PE), u.1 a = some e → va_at Z.1 vwCl (a, x_E Z.2.1 e) H) ∧ H.size = u.2.1
/-- for an input below six: the bits of a word at which it is 1 -/
def tab_ONES : Nat → Int64 := fun k => match k with
  | 0 => -6148914691236517206
  | 1 => -3689348814741910324
  | 2 => -1085102592571150096
  | 3 => -71777214294589696
  | 4 => -281470681808896
  | _ => -4294967296
/-- what is known of the law's own start (its state is a part of Z) -/
def X0 (l : Launch) (Z : XZ) : Prop := l.stackTraces = false ∧ (∃ b : Addr, (∀ w ∈ lw_tbl, w.before #[Value.ref b] Z.2.2.2 = true) ∧ (Jvm.Cond.and given_1 narrow_1).before #[Value.ref b] Z.2.2.2 = true) ∧
  va_Z "DiagramHouse$Functions" "ONES" "[J" (.ref (Z.2.2.1 0)) (fun q => Z.2.2.2.heap.size ≤ q) Z.2.2.2 Z.2.2.2.heap ∧ va_T .long (Z.2.2.1 0) 6 (fun j => .long (tab_ONES j)) (fun q => Z.2.2.2.heap.size ≤ q) Z.2.2.2 Z.2.2.2.heap
/-- the old cells are as they were at the law's start -/
def XG (l : Launch) (Z : XZ) (A : Nat → Prop) (U : State) (H : Heap) : Prop := X0 l Z ∧ Z.2.2.2.WarmedH U.vm ∧ ∀ q : Nat, q < Z.2.2.2.heap.size → ¬ A q ∧ H[q]? = Z.2.2.2.heap[q]?
theorem XG.kept {l : Launch} {Z : XZ} {A : Nat → Prop} {U : State} {H H1 : Heap} (h : XG l Z A U H) (hq : ∀ a : Nat, a < H.size → ¬ A a → H1[a]? = H[a]?) : XG l Z A U H1 := by
  obtain ⟨h0, h1, h2⟩ := h
  refine ⟨h0, h1, fun q q1 => ⟨(h2 q q1).1, ?_⟩⟩
  have e := (h2 q q1).2
  have hlt : q < H.size := by
    rw [Array.getElem?_eq_getElem q1] at e
    exact (Array.getElem?_eq_some_iff.mp e).1
  rw [hq q hlt (h2 q q1).1, e]
theorem XG.narrow {l : Launch} {Z : XZ} {A B : Nat → Prop} {U : State} {H : Heap} (h : XG l Z A U H) (hAB : ∀ q, B q → A q) : XG l Z B U H := ⟨h.1, h.2.1, fun q q1 => ⟨fun hb => (h.2.2 q q1).1 (hAB q hb), (h.2.2 q q1).2⟩⟩
theorem XG.moved {l : Launch} {Z : XZ} {A : Nat → Prop} {u U : State} {H : Heap} (hW : u.WarmedH U.vm) (h : XG l Z A u H) : XG l Z A U H := ⟨h.1, State.WarmedH.trans h.2.1 hW, h.2.2⟩
theorem XG.over {l : Launch} {Z : XZ} {A : Nat → Prop} {U : State} {H : Heap} (h : XG l Z A U H) {t : FieldType} (hm : Cond.arrayOver (.array t) ∈ lw_tbl) (args : Array Value) : (Cond.arrayOver (.array t)).before args U = true := by
  obtain ⟨b, hb, -⟩ := h.1.2.1
  exact over_moved h.2.1.alike (hb _ hm)
theorem XG.z_ONES {l : Launch} {Z : XZ} {A : Nat → Prop} {U : State} {H : Heap} (h : XG l Z A U H) : va_Z "DiagramHouse$Functions" "ONES" "[J" (.ref (Z.2.2.1 0)) A U H := by
  obtain ⟨cf, kf, fi, f, a, cell, h1, h2, h3, h4, h5, h6, h7, h8⟩ := va_Z.moved h.2.1.alike h.1.2.2.1
  have ha : a < Z.2.2.2.heap.size := Nat.lt_of_not_le h8
  exact ⟨cf, kf, fi, f, a, cell, h1, h2, h3, h4, by rw [(h.2.2 a ha).2]; exact h5, h6, h7, (h.2.2 a ha).1⟩
theorem XG.t_ONES {l : Launch} {Z : XZ} {A : Nat → Prop} {U : State} {H : Heap} (h : XG l Z A U H) : va_T .long (Z.2.2.1 0) 6 (fun j => .long (tab_ONES j)) A U H := by
  obtain ⟨cell, h1, h2, h3, h4, h5, h6, h7⟩ := va_T.moved h.2.1.alike h.1.2.2.2
  have ha : Z.2.2.1 0 < Z.2.2.2.heap.size := Nat.lt_of_not_le h7
  exact ⟨cell, by rw [(h.2.2 _ ha).2]; exact h1, h2, h3, h4, h5, h6, (h.2.2 _ ha).1⟩
def XW (l : Launch) (Z : XZ) (A : Nat → Prop) (u0 u : PS) (s : State) (H : Heap) (locs : List Loc) : Prop :=
  va_K Z.1 vwCl (x_T Z.2.1) s ∧ x_M Z u H ∧ (∀ (a : Nat) (e : PE), u.1 a = some e → A a) ∧ va_S A s.heap H locs ∧ (∀ q, s.heap.size ≤ q → A q) ∧ XG l Z A s s.heap ∧ x_le u0 u
def xA (u : PS) : Nat → Prop := fun q => (∃ e : PE, u.1 q = some e) ∨ u.2.1 ≤ q
def XP (l : Launch) (Z : XZ) (u : PS) (U : State) : Prop := va_K Z.1 vwCl (x_T Z.2.1) U ∧ x_M Z u U.heap ∧ XG l Z (xA u) U U.heap
def XQ (Z : XZ) (A : Nat → Prop) (rv : Option Value) (u1 : PS) : Array Value → State → Outcome → State → Prop := fun _ st oc t => oc = .returned rv ∧ x_M Z u1 t.heap ∧ (∀ (a : Nat) (e : PE), u1.1 a = some e → A a) ∧ va_F A st t
def xR (i : XI) (u0 u1 : PS) : Room := { frames := i.2.2.2.2.2.1, cells := u1.2.1 - u0.2.1, slots := u1.2.2 - u0.2.2, locals := i.2.2.2.2.2.2 }
def XF (p : Program) (s : State) (m : MethodId) (args : Array Value) (meth : Method) (c : Code) (i : XI) : Prop := CallFix p m c i.2.1 i.2.2.1 s args i.2.2.2.2.1 i.1.cls ∧ meth.sig.returnType = i.2.2.2.1 ∧ meth.locks = false ∧ meth.name = i.1.name
def XE (l : Launch) (Z : XZ) (i : XI) (u0 u : PS) (rv : Option Value) (u1 : PS) (pc : Nat) (lv : List (Nat × Value)) (st : List Value) : Prop :=
  ∀ (p : Program) (e : Env) (s : State) (m : MethodId) (args : Array Value) (below : List Frame) (meth : Method) (c : Code) (A : Nat → Prop) (H : Heap) (locs : List Loc) (ls : Array Slot), XF p s m args meth c i → XW l Z A u0 u s H locs → lv_has ls i.2.2.1 lv →
    W p l e (xR i u0 u1) s m args below meth c H locs (u.2.1 - u0.2.1) (u.2.2 - u0.2.2) (MQ below (XQ Z A rv u1) args s (u1.2.1 - u0.2.1) (u1.2.2 - u0.2.2) A) (F0 m pc ls st)
def XN (l : Launch) (Z : XZ) (i : XI) (u0 : PS) (K : Option Value → PS → Prop) (u : PS) (pc : Nat) (lv : List (Nat × Value)) (st : List Value) : Prop := ∃ (rv : Option Value) (u1 : PS), K rv u1 ∧ x_le u u1 ∧ XE l Z i u0 u rv u1 pc lv st
def XMet (l : Launch) (Z : XZ) (i : XI) (av : List Value) (u : PS) (rv : Option Value) (u1 : PS) : Prop :=
  x_le u u1 ∧ Met l i.1 i.2.2.2.2.1 (xR i u u1) (va_Pc av (XP l Z u)) (XQ Z (xA u) rv u1) (u1.2.1 - u.2.1) (u1.2.2 - u.2.2) (xA u)
theorem x_M.up {Z : XZ} {u : PS} {H H1 : Heap} (h : x_M Z u H) {a : Nat} {e : PE} (he : va_at Z.1 vwCl (a, x_E Z.2.1 e) H1) (z : H1.size = H.size) (oq : ∀ q : Nat, q ≠ a → H1[q]? = H[q]?) : x_M Z (x_up u a e) H1 := by
  refine ⟨fun b f hb => ?_, z.trans h.2⟩
  by_cases hba : b = a
  · subst hba
    rw [x_up_s] at hb
    cases hb
    exact he
  · rw [x_up_n u e hba] at hb
    exact (h.1 b f hb).kept (oq b hba)
theorem x_M.nw {Z : XZ} {u : PS} {H H1 : Heap} (h : x_M Z u H) {e : PE} {n : Nat} (he : va_at Z.1 vwCl (H.size, x_E Z.2.1 e) H1) (z : H1.size = H.size + 1) (oq : ∀ q : Nat, q < H.size → H1[q]? = H[q]?) : x_M Z (x_nw u e n) H1 := by
  refine ⟨fun b f hb => ?_, by rw [z, h.2]; rfl⟩
  by_cases hba : b = u.2.1
  · subst hba
    have h1 : (x_nw u e n).1 u.2.1 = some e := if_pos rfl
    rw [h1] at hb
    cases hb
    rw [← h.2]
    exact he
  · have h1 : (x_nw u e n).1 b = u.1 b := if_neg hba
    rw [h1] at hb
    have h2 := h.1 b f hb
    exact h2.kept (oq b h2.lt)
theorem XP.blind {l : Launch} {Z : XZ} {u : PS} {av : List Value} : FrameBlind (va_Pc av (XP l Z u)) := fun a U g mk q => by
  obtain ⟨q0, qK, qM, qG⟩ := q
  exact ⟨q0, va_K.moved (u := U) (U := U.calling g mk a) (Vm.Alike.refl U.vm) qK, qM, XG.moved (u := U) (U := U.calling g mk a) (State.WarmedH.refl U) qG⟩
section XR
variable {p : Program} {l : Launch} {e : Env} {R : Room} {s : State} {m : MethodId} {args : Array Value} {below : List Frame} {meth : Method} {c : Code} {H : Heap} {locs : List Loc} {cells slots : Nat} {Q : State → Prop}
variable {cc : ByteArray} {pc : Nat} {ls : Array Slot} {rest : List Value} {Z : XZ} {A : Nat → Prop} {u0 u u' : PS} {a : Nat} {i : XI}
theorem XW.one (hw : XW l Z A u0 u s H locs) {e9 : PE} (h : u.1 a = some e9) : va_P Z.1 vwCl [(a, x_E Z.2.1 e9)] H := by
  intro k q hk
  have hz : k < 1 := (List.getElem?_eq_some_iff.mp hk).1
  rw [show k = 0 by omega] at hk
  cases hk
  exact hw.2.1.1 a e9 h
theorem XW.sub (hw : XW l Z A u0 u s H locs) : ∀ q, xA u q → A q := by
  obtain ⟨-, hM, hA, hS, hA2, -, -⟩ := hw
  intro q h
  rcases h with ⟨e, h⟩ | h
  · exact hA q e h
  · exact hA2 q (by rw [← hM.2] at h; exact Nat.le_trans hS.1 h)
theorem XW.put (hw : XW l Z A u0 u s H locs) {e8 e9 : PE} {H1 : Heap} {L : List Loc} (ha : u.1 a = some e8) (he : va_at Z.1 vwCl (a, x_E Z.2.1 e9) H1) (z : H1.size = H.size) (oq : ∀ q : Nat, q ≠ a → H1[q]? = H[q]?) (hL : ∀ q ∈ L, q.base = a) : XW l Z A u0 (x_up u a e9) s H1 (locs ++ L) := by
  obtain ⟨hK, hM, hA, hS, hA2, hG, hle⟩ := hw
  refine ⟨hK, hM.up he z oq, fun b f hb => ?_, ⟨by rw [z]; exact hS.1, fun q h1 h2 => ?_, fun q hq => ?_⟩, hA2, hG, hle⟩
  · by_cases hba : b = a
    · subst hba
      exact hA b _ ha
    · rw [x_up_n u e9 hba] at hb
      exact hA b f hb
  · rw [oq q (fun e => h2 (by rw [e]; exact hA a _ ha))]
    exact hS.2.1 q h1 h2
  · rcases List.mem_append.mp hq with h1 | h1
    · exact hS.2.2 q h1
    · rw [hL q h1]
      exact hA a _ ha
theorem XW.nw (hw : XW l Z A u0 u s H locs) {e9 : PE} {n : Nat} {H1 : Heap} (he : va_at Z.1 vwCl (H.size, x_E Z.2.1 e9) H1) (z : H1.size = H.size + 1) (oq : ∀ q : Nat, q < H.size → H1[q]? = H[q]?) : XW l Z A u0 (x_nw u e9 n) s H1 locs := by
  obtain ⟨hK, hM, hA, hS, hA2, hG, hle⟩ := hw
  refine ⟨hK, hM.nw he z oq, fun b f hb => ?_, ⟨by rw [z]; exact Nat.le_succ_of_le hS.1, fun q h1 h2 => ?_, hS.2.2⟩, hA2, hG, hle.tr (x_nw.le _ _ _)⟩
  · by_cases hba : b = u.2.1
    · rw [hba, ← hM.2]
      exact hA2 _ hS.1
    · have h1 : (x_nw u e9 n).1 b = u.1 b := if_neg hba
      rw [h1] at hb
      exact hA b f hb
  · rw [oq q (Nat.lt_of_lt_of_le h1 hS.1)]
    exact hS.2.1 q h1 h2
-- fields
theorem xr_get (hx : p.tables.exec = Jvm.exec) (hb : c.code = cc) {own ref C : String} {T : u_T} {N ci index : Nat} {Ts : List Cond} (hts : ∀ w ∈ Ts, w.before args s = true) (hin : ∀ w ∈ u_ws C T N, w ∈ Ts) (hown : s.vm.findClass own = some m.cls) (hw : XW l Z A u0 u s H locs) {k : Nat} {v : Value} (h : x_fv u a ci k v) (hc : vwCl[ci]? = some (C, T, N)) (hk : k < N) (hlink : (Cond.fieldLink own index ref (T k).2.1 (T k).2.2.1).before args s = true) (hsame : ∀ x, s.fieldFound? (T k).1 (T k).2.1 (T k).2.2.1 = some x → s.fieldFound? ref (T k).2.1 (T k).2.2.1 = some x) (hdg : decode cc pc = .ok (.getfield index, 3))
    (kk : W p l e R s m args below meth c H locs cells slots Q (F0 m (pc + 3) ls (v :: rest))) : W p l e R s m args below meth c H locs cells slots Q (F0 m pc ls (.ref a :: rest)) := by
  obtain ⟨fs, h1, h2⟩ := h
  exact va_get hx hb hts hin hown hw.1 (hw.one h1) 0 rfl hc k hk hlink hsame h2 hdg kk
theorem xr_getN (hx : p.tables.exec = Jvm.exec) (hb : c.code = cc) {own ref C host : String} {T : u_T} {N ci index : Nat} {Ts : List Cond} (hts : ∀ w ∈ Ts, w.before args s = true) (hin : ∀ w ∈ u_ws C T N, w ∈ Ts) (hown : s.vm.findClass own = some m.cls) (hw : XW l Z A u0 u s H locs) {k : Nat} {v : Value} (h : x_fv u a ci k v) (hc : vwCl[ci]? = some (C, T, N)) (hk : k < N) (hlink : (Cond.fieldLinkNest own index ref (T k).2.1 (T k).2.2.1 host).before args s = true) (hsame : ∀ x, s.fieldFound? (T k).1 (T k).2.1 (T k).2.2.1 = some x → s.fieldFound? ref (T k).2.1 (T k).2.2.1 = some x) (hdg : decode cc pc = .ok (.getfield index, 3))
    (kk : W p l e R s m args below meth c H locs cells slots Q (F0 m (pc + 3) ls (v :: rest))) : W p l e R s m args below meth c H locs cells slots Q (F0 m pc ls (.ref a :: rest)) := by
  obtain ⟨fs, h1, h2⟩ := h
  exact va_getN hx hb hts hin hown hw.1 (hw.one h1) 0 rfl hc k hk hlink hsame h2 hdg kk
theorem xr_put (hx : p.tables.exec = Jvm.exec) (hb : c.code = cc) {own ref C : String} {T : u_T} {N ci index : Nat} {Ts : List Cond} (hts : ∀ w ∈ Ts, w.before args s = true) (hin : ∀ w ∈ u_ws C T N, w ∈ Ts) (ty0 : Nat → FieldType) (hty : ∀ k, k < N → parseFieldDescriptor (T k).2.2.1 = some (ty0 k)) (hnm : ∀ a, a < N → ∀ b, b < N → a ≠ b → (T a).2.1 ≠ (T b).2.1) (hown : s.vm.findClass own = some m.cls) (hw : XW l Z A u0 u s H locs) {k : Nat} {v : Value} (h : x_pv u a ci k v u') (hc : vwCl[ci]? = some (C, T, N)) (hk : k < N) (hlink : (Cond.fieldLink own index ref (T k).2.1 (T k).2.2.1).before args s = true) (hsame : ∀ x, s.fieldFound? (T k).1 (T k).2.1 (T k).2.2.1 = some x → s.fieldFound? ref (T k).2.1 (T k).2.2.1 = some x) (hfin : (T k).2.2.2 = false) {ty : FieldType} (hd : parseFieldDescriptor (T k).2.2.1 = some ty) (hn : narrow ty v = v) (hfit : fits ty v = true) (hdg : decode cc pc = .ok (.putfield index, 3))
    (kk : ∀ (H1 : Heap) (locs1 : List Loc), XW l Z A u0 u' s H1 locs1 → W p l e R s m args below meth c H1 locs1 (u'.2.1 - u0.2.1) (u'.2.2 - u0.2.2) Q (F0 m (pc + 3) ls rest)) : W p l e R s m args below meth c H locs (u.2.1 - u0.2.1) (u.2.2 - u0.2.2) Q (F0 m pc ls (v :: .ref a :: rest)) := by
  obtain ⟨fs, g1, g2, rfl⟩ := h
  have hap := va_apart (own := own) hts hin ty0 hty hnm hw.1 hc
  obtain ⟨r, h1, cell, q1, q2, q3, q4⟩ := (hw.one g1) 0 _ rfl
  have hr : r = (C, T, N) := Option.some.inj (h1.symm.trans hc)
  subst hr
  obtain ⟨hS, hfc, kC, hkC, hkind⟩ := hw.1.1 ci _ hc
  obtain ⟨cf, kf, fi, f, hi, hsl⟩ := hS k hk
  have hlay := hts _ (hin _ (u_in_lay hk))
  unfold u_lay at hlay
  rw [if_neg (by rw [hfin]; decide)] at hlay
  have hst := (u_facts hfc hkC (u_lays hts hin hk) hi).1
  have h6 := u_store hfc hkC hkind hlay hi hd hn hfit
  refine W.putK hx hb (f := f) ⟨hown, hlink, ⟨_, _, _, hsame _ hi⟩, hst⟩ (by rw [q2]; exact h6) q1 q3 (by rw [hsl]; exact k2_hasslot (q4 k hk)) rfl rfl hdg fun H' e1 e2 e3 => ?_
  rw [hsl] at e1 ⊢
  exact kk H' _ (hw.put g1 ⟨_, hc, t_OB.to (V := updV (vp_V fs) k v) ⟨_, e1, q2, q3, t_set q4 hap hk v⟩ (fun j _ => vp_updV_set g2 v j)⟩ e2 e3 (fun q hq => by rw [List.mem_singleton.mp hq]))
theorem xr_putN (hx : p.tables.exec = Jvm.exec) (hb : c.code = cc) {own ref C host : String} {T : u_T} {N ci index : Nat} {Ts : List Cond} (hts : ∀ w ∈ Ts, w.before args s = true) (hin : ∀ w ∈ u_ws C T N, w ∈ Ts) (ty0 : Nat → FieldType) (hty : ∀ k, k < N → parseFieldDescriptor (T k).2.2.1 = some (ty0 k)) (hnm : ∀ a, a < N → ∀ b, b < N → a ≠ b → (T a).2.1 ≠ (T b).2.1) (hown : s.vm.findClass own = some m.cls) (hw : XW l Z A u0 u s H locs) {k : Nat} {v : Value} (h : x_pv u a ci k v u') (hc : vwCl[ci]? = some (C, T, N)) (hk : k < N) (hlink : (Cond.fieldLinkNest own index ref (T k).2.1 (T k).2.2.1 host).before args s = true) (hsame : ∀ x, s.fieldFound? (T k).1 (T k).2.1 (T k).2.2.1 = some x → s.fieldFound? ref (T k).2.1 (T k).2.2.1 = some x) (hfin : (T k).2.2.2 = false) {ty : FieldType} (hd : parseFieldDescriptor (T k).2.2.1 = some ty) (hn : narrow ty v = v) (hfit : fits ty v = true) (hdg : decode cc pc = .ok (.putfield index, 3))
    (kk : ∀ (H1 : Heap) (locs1 : List Loc), XW l Z A u0 u' s H1 locs1 → W p l e R s m args below meth c H1 locs1 (u'.2.1 - u0.2.1) (u'.2.2 - u0.2.2) Q (F0 m (pc + 3) ls rest)) : W p l e R s m args below meth c H locs (u.2.1 - u0.2.1) (u.2.2 - u0.2.2) Q (F0 m pc ls (v :: .ref a :: rest)) := by
  obtain ⟨fs, g1, g2, rfl⟩ := h
  have hap := va_apart (own := own) hts hin ty0 hty hnm hw.1 hc
  obtain ⟨r, h1, cell, q1, q2, q3, q4⟩ := (hw.one g1) 0 _ rfl
  have hr : r = (C, T, N) := Option.some.inj (h1.symm.trans hc)
  subst hr
  obtain ⟨hS, hfc, kC, hkC, hkind⟩ := hw.1.1 ci _ hc
  obtain ⟨cf, kf, fi, f, hi, hsl⟩ := hS k hk
  have hlay := hts _ (hin _ (u_in_lay hk))
  unfold u_lay at hlay
  rw [if_neg (by rw [hfin]; decide)] at hlay
  have hst := (u_facts hfc hkC (u_lays hts hin hk) hi).1
  have h6 := u_store hfc hkC hkind hlay hi hd hn hfit
  refine va_WputK hx hb (f := f) hown hlink (hsame _ hi) hst (by rw [q2]; exact h6) q1 q3 (by rw [hsl]; exact k2_hasslot (q4 k hk)) rfl rfl hdg fun H' e1 e2 e3 => ?_
  rw [hsl] at e1 ⊢
  exact kk H' _ (hw.put g1 ⟨_, hc, t_OB.to (V := updV (vp_V fs) k v) ⟨_, e1, q2, q3, t_set q4 hap hk v⟩ (fun j _ => vp_updV_set g2 v j)⟩ e2 e3 (fun q hq => by rw [List.mem_singleton.mp hq]))
theorem xr_putF (hx : p.tables.exec = Jvm.exec) (hb : c.code = cc) {own ref C : String} {T : u_T} {N ci index : Nat} {Ts : List Cond} (hts : ∀ w ∈ Ts, w.before args s = true) (hin : ∀ w ∈ u_ws C T N, w ∈ Ts) (ty0 : Nat → FieldType) (hty : ∀ k, k < N → parseFieldDescriptor (T k).2.2.1 = some (ty0 k)) (hnm : ∀ a, a < N → ∀ b, b < N → a ≠ b → (T a).2.1 ≠ (T b).2.1) (hown : s.vm.findClass own = some m.cls) (hw : XW l Z A u0 u s H locs) {k : Nat} {v : Value} (h : x_pv u a ci k v u') (hc : vwCl[ci]? = some (C, T, N)) (hk : k < N) (hlink : (Cond.fieldLink own index ref (T k).2.1 (T k).2.2.1).before args s = true) (hsame : ∀ x, s.fieldFound? (T k).1 (T k).2.1 (T k).2.2.1 = some x → s.fieldFound? ref (T k).2.1 (T k).2.2.1 = some x) (hfin : (T k).2.2.2 = true) (hin2 : meth.name = "<init>") (hdecl : (T k).1 = own) {ty : FieldType} (hd : parseFieldDescriptor (T k).2.2.1 = some ty) (hn : narrow ty v = v) (hfit : fits ty v = true) (hdg : decode cc pc = .ok (.putfield index, 3))
    (kk : ∀ (H1 : Heap) (locs1 : List Loc), XW l Z A u0 u' s H1 locs1 → W p l e R s m args below meth c H1 locs1 (u'.2.1 - u0.2.1) (u'.2.2 - u0.2.2) Q (F0 m (pc + 3) ls rest)) : W p l e R s m args below meth c H locs (u.2.1 - u0.2.1) (u.2.2 - u0.2.2) Q (F0 m pc ls (v :: .ref a :: rest)) := by
  obtain ⟨fs, g1, g2, rfl⟩ := h
  have hap := va_apart (own := own) hts hin ty0 hty hnm hw.1 hc
  obtain ⟨r, h1, cell, q1, q2, q3, q4⟩ := (hw.one g1) 0 _ rfl
  have hr : r = (C, T, N) := Option.some.inj (h1.symm.trans hc)
  subst hr
  obtain ⟨hS, hfc, kC, hkC, hkind⟩ := hw.1.1 ci _ hc
  obtain ⟨cf, kf, fi, f, hi, hsl⟩ := hS k hk
  have hlay := hts _ (hin _ (u_in_lay hk))
  unfold u_lay at hlay
  rw [if_pos hfin] at hlay
  have hst := (u_facts hfc hkC (u_lays hts hin hk) hi).1
  have hcf : m.cls = cf := by
    obtain ⟨_, _, c', _, _, _, -, -, hf', -, -, -, hown2, -⟩ := Cond.laysFinal_spec hlay
    have e1 : c' = cf := by have := hi.symm.trans hf'; simp at this; exact this.1.symm
    rw [hdecl] at hown2
    rw [← e1]; exact Option.some.inj (hown.symm.trans hown2)
  have h6 := u_fits hfc hkC hkind (Or.inr hlay) hi hd hn hfit
  refine W.putFinK hx hb hown hlink (hsame _ hi) hst hcf hin2 (by rw [q2]; exact h6) q1 q3 (by rw [hsl]; exact k2_hasslot (q4 k hk)) rfl rfl hdg fun H' e1 e2 e3 => ?_
  rw [hsl] at e1 ⊢
  exact kk H' _ (hw.put g1 ⟨_, hc, t_OB.to (V := updV (vp_V fs) k v) ⟨_, e1, q2, q3, t_set q4 hap hk v⟩ (fun j _ => vp_updV_set g2 v j)⟩ e2 e3 (fun q hq => by rw [List.mem_singleton.mp hq]))
-- arrays
theorem xr_iald (hx : p.tables.exec = Jvm.exec) (hb : c.code = cc) (hw : XW l Z A u0 u s H locs) {j x : Int32} (h : x_ia u a j x) (hdg : decode cc pc = .ok (.iaload, 1))
    (kk : W p l e R s m args below meth c H locs cells slots Q (F0 m (pc + 1) ls (.int x :: rest))) : W p l e R s m args below meth c H locs cells slots Q (F0 m pc ls (.int j :: .ref a :: rest)) := by
  obtain ⟨n, f, h1, h2, rfl⟩ := h
  exact va_iald hx hb hw.1 (hw.one h1) 0 0 rfl rfl h2 hdg kk
theorem xr_zald (hx : p.tables.exec = Jvm.exec) (hb : c.code = cc) (hw : XW l Z A u0 u s H locs) {j x : Int32} (h : x_za u a j x) (hdg : decode cc pc = .ok (.baload, 1))
    (kk : W p l e R s m args below meth c H locs cells slots Q (F0 m (pc + 1) ls (.int x :: rest))) : W p l e R s m args below meth c H locs cells slots Q (F0 m pc ls (.int j :: .ref a :: rest)) := by
  obtain ⟨n, f, h1, h2, rfl⟩ := h
  exact va_zald hx hb hw.1 (hw.one h1) 0 4 rfl rfl h2 hdg kk
theorem xr_zast (hx : p.tables.exec = Jvm.exec) (hb : c.code = cc) (hw : XW l Z A u0 u s H locs) {j x : Int32} (h : x_zs u a j x u') (hdg : decode cc pc = .ok (.bastore, 1))
    (kk : ∀ (H1 : Heap) (locs1 : List Loc), XW l Z A u0 u' s H1 locs1 → W p l e R s m args below meth c H1 locs1 (u'.2.1 - u0.2.1) (u'.2.2 - u0.2.2) Q (F0 m (pc + 1) ls rest)) : W p l e R s m args below meth c H locs (u.2.1 - u0.2.1) (u.2.2 - u0.2.2) Q (F0 m pc ls (.int x :: .int j :: .ref a :: rest)) := by
  obtain ⟨n, f, h1, h2, h3, rfl⟩ := h
  refine W.zast hx hb ((hw.one h1) 0 _ rfl) ((hw.1.2 4 _ rfl).1 n (fun j => .int (f j))) (fun q => by cases q) (by show ¬ (j < 0 ∨ (arrV _ _ _).slots.size ≤ _); rw [arrV_size]; exact h2) rfl rfl hdg fun H1 e z oq => ?_
  refine kk H1 _ (hw.put h1 ?_ z oq (fun q hq => by rw [List.mem_singleton.mp hq]))
  have hn : narrow .boolean (.int x) = .int x := by rcases h3 with rfl | rfl <;> rfl
  show H1[a]? = some (vp_cell _ _)
  rw [e, hn]
  show some (Cell.setSlot (vp_cell _ _) _ _) = _
  rw [vp_cell_i, vp_cell_i, arrV_store]
  congr 2
  funext q
  by_cases hq : q = j.toNatClampNeg
  · subst hq
    simp [updV, upd]
  · simp [updV, upd, hq]
theorem xr_lald (hx : p.tables.exec = Jvm.exec) (hb : c.code = cc) (hw : XW l Z A u0 u s H locs) {j : Int32} {x : Int64} (h : x_la u a j x) (hdg : decode cc pc = .ok (.laload, 1))
    (kk : W p l e R s m args below meth c H locs cells slots Q (F0 m (pc + 1) ls (.long x :: rest))) : W p l e R s m args below meth c H locs cells slots Q (F0 m pc ls (.int j :: .ref a :: rest)) := by
  obtain ⟨n, f, h1, h2, rfl⟩ := h
  exact va_lald hx hb hw.1 (hw.one h1) 0 1 rfl rfl h2 hdg kk
theorem xr_aald (hx : p.tables.exec = Jvm.exec) (hb : c.code = cc) (hw : XW l Z A u0 u s H locs) {t b : Nat} {ty : FieldType} (ht : (x_T Z.2.1)[t]? = some (Z.2.1 t, .array ty)) {j : Int32} (h : x_ra u t a j b) (hdg : decode cc pc = .ok (.aaload, 1))
    (kk : W p l e R s m args below meth c H locs cells slots Q (F0 m (pc + 1) ls (.ref b :: rest))) : W p l e R s m args below meth c H locs cells slots Q (F0 m pc ls (.int j :: .ref a :: rest)) := by
  obtain ⟨n, f, h1, h2, h3⟩ := h
  have hlt : j.toNatClampNeg < n := Nat.not_le.mp fun q => h2 (Or.inr q)
  exact W.aald (v := .ref b) (ty := .array ty) hx hb ((hw.one h1) 0 _ rfl) ((hw.1.2 t _ ht).1 n (fun j => va_rf (f j))) rfl (fun q => by cases q) (by show ¬ (j < 0 ∨ (arrV _ _ _).slots.size ≤ _); rw [arrV_size]; exact h2) (by show (arrV _ _ _).slots[_]? = _; rw [arrV_read _ _ hlt, h3]; rfl) rfl rfl hdg kk
theorem xr_iast (hx : p.tables.exec = Jvm.exec) (hb : c.code = cc) (hw : XW l Z A u0 u s H locs) {j x : Int32} (h : x_is u a j x u') (hdg : decode cc pc = .ok (.iastore, 1))
    (kk : ∀ (H1 : Heap) (locs1 : List Loc), XW l Z A u0 u' s H1 locs1 → W p l e R s m args below meth c H1 locs1 (u'.2.1 - u0.2.1) (u'.2.2 - u0.2.2) Q (F0 m (pc + 1) ls rest)) : W p l e R s m args below meth c H locs (u.2.1 - u0.2.1) (u.2.2 - u0.2.2) Q (F0 m pc ls (.int x :: .int j :: .ref a :: rest)) := by
  obtain ⟨n, f, h1, h2, rfl⟩ := h
  refine W.iast hx hb ((hw.one h1) 0 _ rfl) ((hw.1.2 0 _ rfl).1 n (fun j => .int (f j))) (fun q => by cases q) (by show ¬ (j < 0 ∨ (arrV _ _ _).slots.size ≤ _); rw [arrV_size]; exact h2) rfl rfl hdg fun H1 e z oq => ?_
  refine kk H1 _ (hw.put h1 ?_ z oq (fun q hq => by rw [List.mem_singleton.mp hq]))
  show H1[a]? = some (vp_cell _ _)
  rw [e]
  show some (Cell.setSlot (vp_cell _ _) _ _) = _
  rw [vp_cell_i, vp_cell_i, arrV_store]
  congr 2
  funext q
  by_cases hq : q = j.toNatClampNeg
  · subst hq
    simp [updV, upd]
  · simp [updV, upd, hq]
theorem xr_last (hx : p.tables.exec = Jvm.exec) (hb : c.code = cc) (hw : XW l Z A u0 u s H locs) {j : Int32} {x : Int64} (h : x_ls u a j x u') (hdg : decode cc pc = .ok (.lastore, 1))
    (kk : ∀ (H1 : Heap) (locs1 : List Loc), XW l Z A u0 u' s H1 locs1 → W p l e R s m args below meth c H1 locs1 (u'.2.1 - u0.2.1) (u'.2.2 - u0.2.2) Q (F0 m (pc + 1) ls rest)) : W p l e R s m args below meth c H locs (u.2.1 - u0.2.1) (u.2.2 - u0.2.2) Q (F0 m pc ls (.long x :: .int j :: .ref a :: rest)) := by
  obtain ⟨n, f, h1, h2, rfl⟩ := h
  refine W.last hx hb ((hw.one h1) 0 _ rfl) ((hw.1.2 1 _ rfl).1 n (fun j => .long (f j))) (fun q => by cases q) (by show ¬ (j < 0 ∨ (arrV _ _ _).slots.size ≤ _); rw [arrV_size]; exact h2) rfl rfl hdg fun H1 e z oq => ?_
  refine kk H1 _ (hw.put h1 ?_ z oq (fun q hq => by rw [List.mem_singleton.mp hq]))
  show H1[a]? = some (vp_cell _ _)
  rw [e]
  show some (Cell.setSlot (vp_cell _ _) _ _) = _
  rw [vp_cell_l, vp_cell_l, arrV_store]
  congr 2
  funext q
  by_cases hq : q = j.toNatClampNeg
  · subst hq
    simp [updV, vp_updL]
  · simp [updV, vp_updL, hq]
theorem xr_aast (hx : p.tables.exec = Jvm.exec) (hb : c.code = cc) (hw : XW l Z A u0 u s H locs) {t tc b : Nat} {ty : FieldType} (ht : (x_T Z.2.1)[t]? = some (Z.2.1 t, .array ty)) (htc : s.vm.findClass (FieldType.array ty).toString = some (Z.2.1 tc)) (hZ : (Cond.arrayOver (.array ty)).before args s = true) {j : Int32} (h : x_rs u t tc a j b u') (hdg : decode cc pc = .ok (.aastore, 1))
    (kk : ∀ (H1 : Heap) (locs1 : List Loc), XW l Z A u0 u' s H1 locs1 → W p l e R s m args below meth c H1 locs1 (u'.2.1 - u0.2.1) (u'.2.2 - u0.2.2) Q (F0 m (pc + 1) ls rest)) : W p l e R s m args below meth c H locs (u.2.1 - u0.2.1) (u.2.2 - u0.2.2) Q (F0 m pc ls (.ref b :: .int j :: .ref a :: rest)) := by
  obtain ⟨n, f, z9, h1, h3, h2, rfl⟩ := h
  have hlt : j.toNatClampNeg < n := Nat.not_le.mp fun q => h2 (Or.inr q)
  have h0 : ¬ j < 0 := fun q => h2 (Or.inl q)
  have g1 : H[b]? = some (vp_cell (Z.2.1 tc) z9) := (hw.one h3) 0 _ rfl
  have g3 : ∀ (cA : ClassId) (z : vp_A), (vp_cell cA z).vm = .none ∧ (vp_cell cA z).cls = cA := fun cA z => by
    obtain ⟨n, f | f | f | f | f⟩ := z <;> exact ⟨rfl, rfl⟩
  obtain ⟨comp, cA2, kA, k3, -, k1, k2, k4⟩ := arrayOverA_spec hZ
  cases ((hw.1.2 t _ ht).2 : s.vm.findClass ("[" ++ (FieldType.array ty).toString) = some (Z.2.1 t)).symm.trans k4
  cases k3.symm.trans htc
  obtain ⟨kE, hkE, -⟩ := Vm.findClass_spec k3
  refine W.aast hx hb ((hw.one h1) 0 _ rfl) (fun q h => by cases h) (fun h => by cases h) k1 k2 rfl hkE ⟨h0, by show _ < (arrV _ _ _).slots.size; rw [arrV_size]; exact hlt⟩ g1 (fun q h => by rw [(g3 _ _).1] at h; cases h) (by rw [(g3 _ _).2]; exact hkE) (by rw [(g3 _ _).2]; exact va_asg _ _) rfl rfl hdg fun H1 e z oq => ?_
  refine kk H1 _ (hw.put h1 ?_ z oq (fun q hq => by rw [List.mem_singleton.mp hq]))
  show H1[a]? = some (vp_cell _ _)
  rw [e]
  show some (Cell.setSlot (vp_cell _ _) _ _) = _
  rw [vp_cell_q, vp_cell_q, arrV_store]
  congr 2
  funext q
  by_cases hq : q = j.toNatClampNeg
  · subst hq
    simp [updV, va_up, va_rf]
  · simp [updV, va_up, hq]
theorem xr_alen (hx : p.tables.exec = Jvm.exec) (hb : c.code = cc) (hw : XW l Z A u0 u s H locs) {t : Nat} {ty : FieldType} (ht : (x_T Z.2.1)[t]? = some (Z.2.1 t, ty)) {n : Int32} (h : x_an u t a n) (hdg : decode cc pc = .ok (.arraylength, 1))
    (kk : W p l e R s m args below meth c H locs cells slots Q (F0 m (pc + 1) ls (.int n :: rest))) : W p l e R s m args below meth c H locs cells slots Q (F0 m pc ls (.ref a :: rest)) := by
  obtain ⟨z, h1, h2⟩ := h
  exact va_alen hx hb hw.1 (hw.one h1) 0 t rfl ht h2 hdg kk
-- new cells; hle: the state behind it is within the method's end
theorem x_room {u1 : PS} {n : Nat} {e9 : PE} (h0 : x_le u0 u) (hle : x_le (x_nw u e9 n) u1) : (u.2.1 - u0.2.1) + 1 ≤ u1.2.1 - u0.2.1 ∧ (u.2.2 - u0.2.2) + n ≤ u1.2.2 - u0.2.2 ∧ (u.2.1 - u0.2.1) + 1 = (x_nw u e9 n).2.1 - u0.2.1 ∧ (u.2.2 - u0.2.2) + n = (x_nw u e9 n).2.2 - u0.2.2 := by
  obtain ⟨h1, h2⟩ := h0
  obtain ⟨h3, h4⟩ := hle
  have e1 : (x_nw u e9 n).2.1 = u.2.1 + 1 := rfl
  have e2 : (x_nw u e9 n).2.2 = u.2.2 + n := rfl
  rw [e1] at h3 ⊢
  rw [e2] at h4 ⊢
  omega
theorem xr_newai {u1 : PS} (hx : p.tables.exec = Jvm.exec) (hb : c.code = cc) {atype : ArrayType} (hty : newarray.typeOf atype = .int) (harr : (Cond.arrayClass .int).before args s = true) (hw : XW l Z A u0 u s H locs) {n : Int32} (h : x_ni u n a u') (hle : x_le u' u1) (hdg : decode cc pc = .ok (.newarray atype, 2))
    (kk : ∀ H1 : Heap, XW l Z A u0 u' s H1 locs → W p l e (xR i u0 u1) s m args below meth c H1 locs (u'.2.1 - u0.2.1) (u'.2.2 - u0.2.2) Q (F0 m (pc + 2) ls (.ref a :: rest))) : W p l e (xR i u0 u1) s m args below meth c H locs (u.2.1 - u0.2.1) (u.2.2 - u0.2.2) Q (F0 m pc ls (.int n :: rest)) := by
  obtain ⟨h1, h2, rfl, rfl⟩ := h
  obtain ⟨r1, r2, r3, r4⟩ := x_room hw.2.2.2.2.2.2 hle
  refine va_newaK hx hb (by rw [hty]; exact harr) rfl hdg rfl h1 rfl (by rw [hty]; exact h2) r1 r2 (h := u.2.1) hw.2.1.2 fun H1 cA e1 z1 o1 hAr hNm => ?_
  have hcA : cA = Z.2.1 0 := by
    rw [hty] at hNm
    exact Option.some.inj (hNm.symm.trans (hw.1.2 0 _ rfl).2)
  rw [r3, r4]
  refine kk H1 (hw.nw ?_ (by rw [z1, hw.2.1.2]) (fun q hq => o1 q (by rw [← hw.2.1.2]; exact hq)))
  show H1[H.size]? = some (vp_cell _ _)
  rw [hw.2.1.2, e1, hty, hcA]
  rfl
theorem xr_newaz {u1 : PS} (hx : p.tables.exec = Jvm.exec) (hb : c.code = cc) {atype : ArrayType} (hty : newarray.typeOf atype = .boolean) (harr : (Cond.arrayClass .boolean).before args s = true) (hw : XW l Z A u0 u s H locs) {n : Int32} (h : x_nz u n a u') (hle : x_le u' u1) (hdg : decode cc pc = .ok (.newarray atype, 2))
    (kk : ∀ H1 : Heap, XW l Z A u0 u' s H1 locs → W p l e (xR i u0 u1) s m args below meth c H1 locs (u'.2.1 - u0.2.1) (u'.2.2 - u0.2.2) Q (F0 m (pc + 2) ls (.ref a :: rest))) : W p l e (xR i u0 u1) s m args below meth c H locs (u.2.1 - u0.2.1) (u.2.2 - u0.2.2) Q (F0 m pc ls (.int n :: rest)) := by
  obtain ⟨h1, h2, rfl, rfl⟩ := h
  obtain ⟨r1, r2, r3, r4⟩ := x_room hw.2.2.2.2.2.2 hle
  refine va_newaK hx hb (by rw [hty]; exact harr) rfl hdg rfl h1 rfl (by rw [hty]; show _ * 1 ≤ _; omega) r1 r2 (h := u.2.1) hw.2.1.2 fun H1 cA e1 z1 o1 hAr hNm => ?_
  have hcA : cA = Z.2.1 4 := by
    rw [hty] at hNm
    exact Option.some.inj (hNm.symm.trans (hw.1.2 4 _ rfl).2)
  rw [r3, r4]
  refine kk H1 (hw.nw ?_ (by rw [z1, hw.2.1.2]) (fun q hq => o1 q (by rw [← hw.2.1.2]; exact hq)))
  show H1[H.size]? = some (vp_cell _ _)
  rw [hw.2.1.2, e1, hty, hcA]
  rfl
theorem xr_newal {u1 : PS} (hx : p.tables.exec = Jvm.exec) (hb : c.code = cc) {atype : ArrayType} (hty : newarray.typeOf atype = .long) (harr : (Cond.arrayClass .long).before args s = true) (hw : XW l Z A u0 u s H locs) {n : Int32} (h : x_nl u n a u') (hle : x_le u' u1) (hdg : decode cc pc = .ok (.newarray atype, 2))
    (kk : ∀ H1 : Heap, XW l Z A u0 u' s H1 locs → W p l e (xR i u0 u1) s m args below meth c H1 locs (u'.2.1 - u0.2.1) (u'.2.2 - u0.2.2) Q (F0 m (pc + 2) ls (.ref a :: rest))) : W p l e (xR i u0 u1) s m args below meth c H locs (u.2.1 - u0.2.1) (u.2.2 - u0.2.2) Q (F0 m pc ls (.int n :: rest)) := by
  obtain ⟨h1, h2, rfl, rfl⟩ := h
  obtain ⟨r1, r2, r3, r4⟩ := x_room hw.2.2.2.2.2.2 hle
  refine va_newaK hx hb (by rw [hty]; exact harr) rfl hdg rfl h1 rfl (by rw [hty]; exact h2) r1 r2 (h := u.2.1) hw.2.1.2 fun H1 cA e1 z1 o1 hAr hNm => ?_
  have hcA : cA = Z.2.1 1 := by
    rw [hty] at hNm
    exact Option.some.inj (hNm.symm.trans (hw.1.2 1 _ rfl).2)
  rw [r3, r4]
  refine kk H1 (hw.nw ?_ (by rw [z1, hw.2.1.2]) (fun q hq => o1 q (by rw [← hw.2.1.2]; exact hq)))
  show H1[H.size]? = some (vp_cell _ _)
  rw [hw.2.1.2, e1, hty, hcA]
  rfl
theorem xr_new {u1 : PS} (hx : p.tables.exec = Jvm.exec) (hb : c.code = cc) {own C : String} {T : u_T} {N ci index : Nat} {Ts : List Cond} (hts : ∀ w ∈ Ts, w.before args s = true) (hin : ∀ w ∈ u_ws C T N, w ∈ Ts) (ty : Nat → FieldType) (hty : ∀ k, k < N → parseFieldDescriptor (T k).2.2.1 = some (ty k)) (hown : s.vm.findClass own = some m.cls) (hcl : (Cond.classLink own index C).before args s = true) (hinst : (Cond.instantiable C N).before args s = true) (hini : (Cond.initialized C).before args s = true)
    (hw : XW l Z A u0 u s H locs) (hc : vwCl[ci]? = some (C, T, N)) {fs : List Value} (hl : fs.length = N) (hfs : ∀ j, j < N → defaultValue (ty j) = vp_V fs j) (h : x_no u ci fs a u') (hle : x_le u' u1) (hdg : decode cc pc = .ok (.new index, 3))
    (kk : ∀ H1 : Heap, XW l Z A u0 u' s H1 locs → W p l e (xR i u0 u1) s m args below meth c H1 locs (u'.2.1 - u0.2.1) (u'.2.2 - u0.2.2) Q (F0 m (pc + 3) ls (.ref a :: rest))) : W p l e (xR i u0 u1) s m args below meth c H locs (u.2.1 - u0.2.1) (u.2.2 - u0.2.2) Q (F0 m pc ls rest) := by
  subst hl
  obtain ⟨rfl, rfl⟩ := h
  obtain ⟨r1, r2, r3, r4⟩ := x_room hw.2.2.2.2.2.2 hle
  have hKn := hw.1.1 ci _ hc
  refine W.newcK hx hb hown hcl hinst hini rfl hdg r1 r2 hKn.2.1 (h := u.2.1) hw.2.1.2 fun H1 kC hkC e1 z1 o1 => ?_
  rw [r3, r4]
  refine kk H1 (hw.nw ?_ (by rw [z1, hw.2.1.2]) (fun q hq => o1 q (by rw [← hw.2.1.2]; exact hq)))
  rw [hw.2.1.2]
  exact ⟨_, hc, (u_born ty hts hin hKn hkC e1 hty).to hfs⟩
theorem x_outer (c : ClassId) (N h0 : Nat) : ∀ i : Nat, Jvm.Free.Multi.outerC c N h0 i = arrV c N (fun j => va_rf (if j < i then some (h0 + 1 + j) else none))
  | 0 => by
    show (_ : Cell) = _
    rw [show (fun j => va_rf (if j < 0 then some (h0 + 1 + j) else none)) = (fun _ => Value.null) from funext fun j => by simp [va_rf], ← arrV_new]
    rfl
  | i + 1 => by
    show (Jvm.Free.Multi.outerC c N h0 i).setSlot i (.ref (h0 + 1 + i)) = _
    rw [x_outer c N h0 i, arrV_store]
    congr 1
    funext j
    by_cases e : j = i
    · subst e
      simp [updV, va_rf]
    · by_cases h : j < i
      · simp [updV, e, h, Nat.lt_succ_of_lt h]
      · simp [updV, e, h, show ¬ j < i + 1 by omega]
theorem xr_multi {u1 : PS} {t tc : Nat} {ty : FieldType} {z : Nat → vp_A} (hx : p.tables.exec = Jvm.exec) (hb : c.code = cc) {own : String} {index : Nat} (hown : s.vm.findClass own = some m.cls) (hclink : (Cond.classLink own index ("[" ++ (FieldType.array ty).toString)).before args s = true) (hover : (Cond.arrayOver (.array ty)).before args s = true) (harr : (Cond.arrayClass ty).before args s = true)
    (hw : XW l Z A u0 u s H locs) (ht : s.vm.findClass ("[" ++ (FieldType.array ty).toString) = some (Z.2.1 t)) (htc : s.vm.findClass (FieldType.array ty).toString = some (Z.2.1 tc)) (hcb : ∀ k : Nat, k * 8 ≤ 536870912 → k * componentBytes ty ≤ 536870912) (hdf : fits ty (defaultValue ty) = true) (hdd : (defaultValue ty).isDefault = true) (hz : ∀ (c : ClassId) (k : Nat), Jvm.Free.Multi.innerC c k (defaultValue ty) = vp_cell c (z k))
    {n k : Int32} (h : x_gn u t tc n k z a u') (hle : x_le u' u1) (hdg : decode cc pc = .ok (.multianewarray index 2, 4))
    (kk : ∀ H1 : Heap, XW l Z A u0 u' s H1 locs → W p l e (xR i u0 u1) s m args below meth c H1 locs (u'.2.1 - u0.2.1) (u'.2.2 - u0.2.2) Q (F0 m (pc + 4) ls (.ref a :: rest))) : W p l e (xR i u0 u1) s m args below meth c H locs (u.2.1 - u0.2.1) (u.2.2 - u0.2.2) Q (F0 m pc ls (.int k :: .int n :: rest)) := by
  obtain ⟨h1, h2, h3, h4, rfl, rfl⟩ := h
  obtain ⟨hK, hM, hA, hS, hA2, hG, hle0⟩ := hw
  generalize hN : n.toNatClampNeg = N at h3 hle kk
  generalize hKk : k.toNatClampNeg = K at h4 hle kk
  have e1 : (x_gr u t tc N K (z K)).2.1 = u.2.1 + 1 + N := rfl
  have e2 : (x_gr u t tc N K (z K)).2.2 = u.2.2 + (N + N * K) := rfl
  have l1 := hle.1
  have l2 := hle.2
  have l3 := hle0.1
  have l4 := hle0.2
  rw [e1] at l1
  rw [e2] at l2
  have r1 : u.2.1 - u0.2.1 + (1 + N) ≤ (xR i u0 u1).cells := by show _ ≤ u1.2.1 - u0.2.1; omega
  have r2 : u.2.2 - u0.2.2 + (N + N * K) ≤ (xR i u0 u1).slots := by show _ ≤ u1.2.2 - u0.2.2; omega
  have r3 : u.2.1 - u0.2.1 + 1 + N = (x_gr u t tc N K (z K)).2.1 - u0.2.1 := by rw [e1]; omega
  have r4 : u.2.2 - u0.2.2 + N + N * K = (x_gr u t tc N K (z K)).2.2 - u0.2.2 := by rw [e2]; omega
  intro T hT X
  obtain ⟨vm₁, cA, comp, -, fA, fC, hO, -, X', step⟩ := X.multianewarray2F hx hown hclink hover harr (g := F0 m pc ls (.int k :: .int n :: rest)) rfl (by rw [hb]; exact hdg) rfl h1 h2 (by rw [hN]; exact h3) (by rw [hKk]; exact hcb _ h4) (by rw [hKk]; omega) hdf hdd (by rw [hN]; exact r1) (by rw [hN, hKk]; exact r2)
  rw [hN, hKk] at X' step
  have ec : cA = Z.2.1 t := Option.some.inj (fA.symm.trans ht)
  have ec2 : comp = Z.2.1 tc := Option.some.inj (fC.symm.trans htc)
  subst ec
  subst ec2
  generalize hF : Jvm.Free.Multi.fill (T.setVm vm₁) (Z.2.1 t) (Z.2.1 tc) N K (defaultValue ty) N = F at X' step
  have hTh : (T.setVm vm₁).heap = H := hT
  obtain ⟨f1, f2, -, -⟩ := Jvm.Free.Multi.fill_facts (T.setVm vm₁) (Z.2.1 t) (Z.2.1 tc) N K (defaultValue ty) N
  rw [hF, hTh] at f1 f2
  have hold : ∀ x : Nat, x < H.size → F.heap[x]? = H[x]? := fun x hx => by
    have := Jvm.Free.Multi.fill_old (T.setVm vm₁) (Z.2.1 t) (Z.2.1 tc) N K (defaultValue ty) (a := x) (by rw [hTh]; exact hx) N
    rw [hF, hTh] at this
    exact this
  have hrow : ∀ j : Nat, j < N → F.heap[H.size + 1 + j]? = some (vp_cell (Z.2.1 tc) (z K)) := fun j hj => by
    have := Jvm.Free.Multi.fill_inner (T.setVm vm₁) (Z.2.1 t) (Z.2.1 tc) N K (defaultValue ty) N j hj
    rw [hF, hTh, hz] at this
    exact this
  have hXW : XW l Z A u0 (x_gr u t tc N K (z K)) s F.heap locs := by
    refine ⟨hK, ⟨fun b f hb => ?_, ?_⟩, fun b f hb => ?_, ⟨?_, fun q q1 q2 => ?_, hS.2.2⟩, hA2, hG, hle0.tr (x_gr.le _ _ _ _ _ _)⟩
    · by_cases hb1 : b = u.2.1
      · subst hb1
        have hb2 : (x_gr u t tc N K (z K)).1 u.2.1 = some (.inl (t, N, .inr (.inr (.inr (.inr (fun i => if i < N then some (u.2.1 + 1 + i) else none)))))) := if_pos rfl
        rw [hb2] at hb
        cases hb
        show F.heap[u.2.1]? = some (vp_cell (Z.2.1 t) _)
        rw [← hM.2, f2, x_outer, vp_cell_q]
      · by_cases hb3 : u.2.1 < b ∧ b < u.2.1 + 1 + N
        · have hb2 : (x_gr u t tc N K (z K)).1 b = some (.inl (tc, z K)) := (if_neg hb1).trans (if_pos hb3)
          rw [hb2] at hb
          cases hb
          show F.heap[b]? = some (vp_cell (Z.2.1 tc) _)
          have := hrow (b - (u.2.1 + 1)) (by omega)
          rw [hM.2, show u.2.1 + 1 + (b - (u.2.1 + 1)) = b by omega] at this
          exact this
        · have hb2 : (x_gr u t tc N K (z K)).1 b = u.1 b := (if_neg hb1).trans (if_neg hb3)
          rw [hb2] at hb
          have h9 := hM.1 b f hb
          exact h9.kept (hold b h9.lt)
    · rw [f1, hM.2]
      show _ = u.2.1 + 1 + N
      omega
    · by_cases hb1 : u.2.1 ≤ b
      · exact hA2 b (by rw [← hM.2] at hb1; exact Nat.le_trans hS.1 hb1)
      · have hb2 : (x_gr u t tc N K (z K)).1 b = u.1 b := (if_neg (by omega)).trans (if_neg (by omega))
        rw [hb2] at hb
        exact hA b f hb
    · rw [f1]
      have := hS.1
      omega
    · rw [hold q (Nat.lt_of_lt_of_le q1 hS.1)]
      exact hS.2.1 q q1 q2
  rw [r3, r4] at X'
  obtain ⟨t2, a1, b1⟩ := kk F.heap hXW F rfl X'
  refine ⟨t2, step t2 ?_, b1⟩
  rw [hT, hM.2]
  exact a1
/-- System.arraycopy between two int arrays, or within one -/
theorem xr_copy (hx : p.tables.exec = Jvm.exec) (hb : c.code = cc) (hml : c.maxLocals = ls.size) {own : String} {index : Nat} (hown : s.vm.findClass own = some m.cls) (hlink : (Cond.methodLink own index arraycopyName).before args s = true) (hnat : (Cond.native arraycopyName).before args s = true) (hstat : (Cond.static arraycopyName).before args s = true) (hini : (Cond.initialized "java/lang/System").before args s = true)
    (hw : XW l Z A u0 u s H locs) {b : Nat} {sp dp n : Int32} (h : x_cp u a sp b dp n u') (hframes : 1 ≤ R.frames) (hlocals : (rest.map fun v => v.category).sum + (nativeFrameWords "java/lang/System" "arraycopy" 5 + 11) ≤ R.locals) (hdg : decode cc pc = .ok (.invokestatic index, 3))
    (kk : ∀ (H1 : Heap) (locs1 : List Loc), XW l Z A u0 u' s H1 locs1 → W p l e R s m args below meth c H1 locs1 (u'.2.1 - u0.2.1) (u'.2.2 - u0.2.2) Q (F0 m (pc + 3) ls rest)) : W p l e R s m args below meth c H locs (u.2.1 - u0.2.1) (u.2.2 - u0.2.2) Q (F0 m pc ls (.int n :: .int dp :: .ref b :: .int sp :: .ref a :: rest)) := by
  obtain ⟨n0, n1, f, g, ha0, ha1, h1, h2, h3, h4, h5, rfl⟩ := h
  have nn : ∀ z : Int32, ¬ z < 0 → z.toInt = (z.toNatClampNeg : Int) := by
    intro z hz
    have hz0 : (0 : Int) ≤ z.toInt := by
      have := Int32.not_lt.mp hz
      simpa using Int32.le_iff_toInt_le.mp this
    show z.toInt = ((z.toInt.toNat : Nat) : Int)
    omega
  intro T hT X
  have hc0 : H[a]? = some (vp_cell (Z.2.1 0) (n0, .inl f)) := (hw.one ha0) 0 _ rfl
  have hc1 : H[b]? = some (vp_cell (Z.2.1 0) (n1, .inl g)) := (hw.one ha1) 0 _ rfl
  obtain ⟨-, k0, hk0, cm0, hkk0⟩ := (hw.1.2 0 _ rfl).1 n0 (fun j => .int (f j))
  obtain ⟨-, k1, hk1, cm1, hkk1⟩ := (hw.1.2 0 _ rfl).1 n1 (fun j => .int (g j))
  obtain ⟨vm', X', step⟩ := X.arraycopy hx hown hlink hnat hstat hini (src := a) (dst := b) (cs := vp_cell (Z.2.1 0) (n0, .inl f)) (cd := vp_cell (Z.2.1 0) (n1, .inl g)) (srcPos := sp) (destPos := dp) (n := n) (by rw [hT]; exact hc0) (by rw [hT]; exact hc1)
    (fun _ h => by cases h) (fun _ h => by cases h) (fun h => by cases h) (fun h => by cases h) hk0 hk1 hkk0 hkk1 (by simp [refKind]) h1 h2 h3
    (by rw [nn sp h1, nn n h3]; show ¬ _ > ((arrV (Z.2.1 0) n0 (fun j => .int (f j))).slots.size : Int); rw [arrV_size]; omega)
    (by rw [nn dp h2, nn n h3]; show ¬ _ > ((arrV (Z.2.1 0) n1 (fun j => .int (g j))).slots.size : Int); rw [arrV_size]; omega)
    (fun vm₁ _ i hi => by
      have e : (vp_cell (Z.2.1 0) (n0, .inl f)).slots.getD (sp.toNatClampNeg + i) .null = .int (f (sp.toNatClampNeg + i)) := by
        show (arrV (Z.2.1 0) n0 (fun j => .int (f j))).slots.getD _ _ = _
        rw [Array.getD_eq_getD_getElem?, arrV_read _ _ (by omega)]
        rfl
      refine ⟨?_, ?_⟩
      · rw [e]
        rfl
      · rw [e]
        exact trivial)
    (g := F0 m pc ls (.int n :: .int dp :: .ref b :: .int sp :: .ref a :: rest)) rfl (by rw [hml]) (rest := rest) rfl (by rw [hb]; exact hdg) hframes (by show 2 * 0 + _ + _ ≤ _; omega)
  have e1 : copied (vp_cell (Z.2.1 0) (n0, .inl f)) (vp_cell (Z.2.1 0) (n1, .inl g)) sp dp n = vp_cell (Z.2.1 0) (n1, .inl (va_cpy f g sp.toNatClampNeg dp.toNatClampNeg n.toNatClampNeg)) := va_copied (fun z => .int z) (Z.2.1 0) (Z.2.1 0) f g h4
  rw [e1] at X' step
  have hl : b < H.size := (Array.getElem?_eq_some_iff.mp hc1).1
  have hheap : ((T.setVm vm').setCell b (vp_cell (Z.2.1 0) (n1, .inl (va_cpy f g sp.toNatClampNeg dp.toNatClampNeg n.toNatClampNeg)))).heap = H.setIfInBounds b (vp_cell (Z.2.1 0) (n1, .inl (va_cpy f g sp.toNatClampNeg dp.toNatClampNeg n.toNatClampNeg))) := by rw [← hT]; rfl
  have oq : ∀ q : Nat, q ≠ b → (H.setIfInBounds b (vp_cell (Z.2.1 0) (n1, .inl (va_cpy f g sp.toNatClampNeg dp.toNatClampNeg n.toNatClampNeg))))[q]? = H[q]? := fun q hq => by simp [Array.getElem?_setIfInBounds, Ne.symm hq]
  obtain ⟨t, a1, b1⟩ := kk _ _ (hw.put ha1 (show (H.setIfInBounds b _)[b]? = some _ by simp [Array.getElem?_setIfInBounds, hl]) (by simp) oq (fun q hq => by
      obtain ⟨z, -, hz⟩ := List.mem_map.mp hq
      rw [← hz])) _ hheap X'
  exact ⟨t, step t a1, b1⟩
-- calls
theorem xr_pre (hw : XW l Z A u0 u s H locs) {U : State} (hU : U.heap = H) (hW : s.WarmedH U.vm) : XP l Z u U := by
  have hsub := hw.sub
  obtain ⟨hK, hM, hA, hS, hA2, hG, hle⟩ := hw
  refine ⟨va_K.moved hW.alike hK, by rw [hU]; exact hM, ?_⟩
  rw [hU]
  exact XG.moved hW ((hG.kept (fun a h1 h2 => hS.2.1 a h1 h2)).narrow hsub)
theorem xr_recv (hw : XW l Z A u0 u s H locs) {ci : Nat} {qc : vw_C} (hq : vwCl[ci]? = some qc) (h : x_ob u a ci) : ∃ cell : Cell, H[a]? = some cell ∧ cell.vm.isStatics = false ∧ s.vm.findClass qc.1 = some cell.cls := by
  obtain ⟨fs, h⟩ := h
  exact va_recv (q0 := 0) hw.1 (hw.one h) hq rfl
theorem x_cost {u1 : PS} (h0 : x_le u0 u) (h1 : x_le u u') (h2 : x_le u' u1) : ((u.2.1 - u0.2.1) + (u'.2.1 - u.2.1) ≤ u1.2.1 - u0.2.1 ∧ (u.2.2 - u0.2.2) + (u'.2.2 - u.2.2) ≤ u1.2.2 - u0.2.2) ∧ (u.2.1 - u0.2.1) + (u'.2.1 - u.2.1) = u'.2.1 - u0.2.1 ∧ (u.2.2 - u0.2.2) + (u'.2.2 - u.2.2) = u'.2.2 - u0.2.2 := by
  obtain ⟨a1, a2⟩ := h0
  obtain ⟨b1, b2⟩ := h1
  obtain ⟨c1, c2⟩ := h2
  omega
theorem xr_back {mc ms : Nat} {st0 : List Value} {a9 : Array Value} {rv : Option Value} (hw : XW l Z A u0 u s H locs) (hle : x_le u u') (hr : va_Run p l e R s m args below meth c H locs cells slots mc ms (F0 m pc ls st0) rest (XQ Z (xA u) rv u' a9) (xA u))
    (kk : ∀ (H1 : Heap) (locs1 : List Loc), XW l Z A u0 u' s H1 locs1 → W p l e R s m args below meth c H1 locs1 (cells + mc) (slots + ms) Q (F0 m (pc + 3) ls (rv.toList ++ rest))) : W p l e R s m args below meth c H locs cells slots Q (F0 m pc ls st0) := by
  have hsub := hw.sub
  obtain ⟨hK, hM, hA, hS, hA2, hG, hle0⟩ := hw
  intro T hT X
  obtain ⟨v, st₀, t, T', L, h0, X', hL, e1, e2, ⟨hv, hM1, hd, hz, hk⟩, st⟩ := hr T hT X
  cases hv
  rw [h0] at hz hk
  obtain ⟨t2, a1, b1⟩ := kk T'.heap (locs ++ L) ⟨hK, by rw [e1]; exact hM1, fun a e h => hsub a (hd a e h),
    ⟨Nat.le_trans hS.1 (by rw [e1]; exact hz), fun q h1 h2 => by rw [e1, hk q (Nat.lt_of_lt_of_le h1 hS.1) (fun z => h2 (hsub q z))]; exact hS.2.1 q h1 h2, fun q hq => by
      rcases List.mem_append.mp hq with h | h
      · exact hS.2.2 q h
      · exact hsub _ (hL q h)⟩, hA2, hG, hle0.tr hle⟩ T' rfl X'
  exact ⟨t2, st t2 a1, b1⟩
theorem xr_cV {u1 : PS} {nL n index : Nat} {Ts : List Cond} {own C : String} {ic : XI} {rv : Option Value} {b ci : Nat} {As st0 : List Value} {qc : vw_C} (F : CallFix p m c cc nL s args Ts own) (hw : XW l Z A u0 u s H locs) (hM : XMet l Z ic (.ref b :: As) u rv u') (hle : x_le u' u1)
    (cw : ∀ mc ms : Nat, CallW (xR i u0 u1) s args own C index ic.1 ic.2.1 ic.2.2.1 ic.2.2.2.1 ic.2.2.2.2.1 { frames := ic.2.2.2.2.2.1, cells := mc, slots := ms, locals := ic.2.2.2.2.2.2 } mc ms n) (hq : vwCl[ci]? = some qc) (hqC : qc.1 = C) (hob : x_ob u b ci) (hn : As.length = n) (hl : ls.size = nL) (hst : st0 = As.reverse ++ .ref b :: rest) (hr8 : (rest.map fun v => v.category).sum ≤ 8) (hdg : decode cc pc = .ok (.invokevirtual index, 3))
    (kk : ∀ (H1 : Heap) (locs1 : List Loc), XW l Z A u0 u' s H1 locs1 → W p l e (xR i u0 u1) s m args below meth c H1 locs1 (u'.2.1 - u0.2.1) (u'.2.2 - u0.2.2) Q (F0 m (pc + 3) ls (rv.toList ++ rest))) : W p l e (xR i u0 u1) s m args below meth c H locs (u.2.1 - u0.2.1) (u.2.2 - u0.2.2) Q (F0 m pc ls st0) := by
  obtain ⟨g1, g2, g3⟩ := x_cost hw.2.2.2.2.2.2 hM.1 hle
  subst hqC
  refine xr_back hw hM.1 (va_runV (As := As) (rest := rest) F hM.2 (cw _ _) ⟨XP.blind, xr_recv hw hq hob, fun U hU hW => ⟨rfl, xr_pre hw hU hW⟩⟩ rfl hn hl hst (lv_room hr8) hdg g1) (fun H1 locs1 hw1 => ?_)
  rw [g2, g3]
  exact kk H1 locs1 hw1
theorem xr_cVN {u1 : PS} {nL n index : Nat} {Ts : List Cond} {own C host : String} {ic : XI} {rv : Option Value} {b ci : Nat} {As st0 : List Value} {qc : vw_C} (F : CallFix p m c cc nL s args Ts own) (hw : XW l Z A u0 u s H locs) (hM : XMet l Z ic (.ref b :: As) u rv u') (hle : x_le u' u1)
    (cw : ∀ mc ms : Nat, va_CN (xR i u0 u1) s args own index ic.1 host ic.2.1 ic.2.2.1 ic.2.2.2.1 ic.2.2.2.2.1 { frames := ic.2.2.2.2.2.1, cells := mc, slots := ms, locals := ic.2.2.2.2.2.2 } mc ms n ∧ (Cond.instanceMethod ic.1).before args s = true ∧ (Cond.selects C ic.1 ic.1).before args s = true) (hq : vwCl[ci]? = some qc) (hqC : qc.1 = C) (hob : x_ob u b ci) (hn : As.length = n) (hl : ls.size = nL) (hst : st0 = As.reverse ++ .ref b :: rest) (hr8 : (rest.map fun v => v.category).sum ≤ 8) (hdg : decode cc pc = .ok (.invokevirtual index, 3))
    (kk : ∀ (H1 : Heap) (locs1 : List Loc), XW l Z A u0 u' s H1 locs1 → W p l e (xR i u0 u1) s m args below meth c H1 locs1 (u'.2.1 - u0.2.1) (u'.2.2 - u0.2.2) Q (F0 m (pc + 3) ls (rv.toList ++ rest))) : W p l e (xR i u0 u1) s m args below meth c H locs (u.2.1 - u0.2.1) (u.2.2 - u0.2.2) Q (F0 m pc ls st0) := by
  obtain ⟨g1, g2, g3⟩ := x_cost hw.2.2.2.2.2.2 hM.1 hle
  subst hqC
  refine xr_back hw hM.1 (va_runVN (As := As) (rest := rest) F hM.2 (cw _ _) ⟨XP.blind, xr_recv hw hq hob, fun U hU hW => ⟨rfl, xr_pre hw hU hW⟩⟩ rfl hn hl hst (lv_room hr8) hdg g1) (fun H1 locs1 hw1 => ?_)
  rw [g2, g3]
  exact kk H1 locs1 hw1
theorem xr_cS {u1 : PS} {nL n index : Nat} {Ts : List Cond} {own : String} {ic : XI} {rv : Option Value} {As st0 : List Value} (F : CallFix p m c cc nL s args Ts own) (hw : XW l Z A u0 u s H locs) (hM : XMet l Z ic As u rv u') (hle : x_le u' u1)
    (cw : ∀ mc ms : Nat, CallB (xR i u0 u1) s args own index ic.1 ic.2.1 ic.2.2.1 ic.2.2.2.1 ic.2.2.2.2.1 { frames := ic.2.2.2.2.2.1, cells := mc, slots := ms, locals := ic.2.2.2.2.2.2 } mc ms n ∧ (Cond.static ic.1).before args s = true) (hn : As.length = n) (hl : ls.size = nL) (hst : st0 = As.reverse ++ rest) (hr8 : (rest.map fun v => v.category).sum ≤ 8) (hdg : decode cc pc = .ok (.invokestatic index, 3))
    (kk : ∀ (H1 : Heap) (locs1 : List Loc), XW l Z A u0 u' s H1 locs1 → W p l e (xR i u0 u1) s m args below meth c H1 locs1 (u'.2.1 - u0.2.1) (u'.2.2 - u0.2.2) Q (F0 m (pc + 3) ls (rv.toList ++ rest))) : W p l e (xR i u0 u1) s m args below meth c H locs (u.2.1 - u0.2.1) (u.2.2 - u0.2.2) Q (F0 m pc ls st0) := by
  obtain ⟨g1, g2, g3⟩ := x_cost hw.2.2.2.2.2.2 hM.1 hle
  refine xr_back hw hM.1 (va_runS (As := As) (rest := rest) F hM.2 (cw _ _) ⟨XP.blind, fun U hU hW => ⟨rfl, xr_pre hw hU hW⟩⟩ rfl hn hl hst (lv_room hr8) hdg g1) (fun H1 locs1 hw1 => ?_)
  rw [g2, g3]
  exact kk H1 locs1 hw1
theorem xr_cSN {u1 : PS} {nL n index : Nat} {Ts : List Cond} {own host : String} {ic : XI} {rv : Option Value} {As st0 : List Value} (F : CallFix p m c cc nL s args Ts own) (hw : XW l Z A u0 u s H locs) (hM : XMet l Z ic As u rv u') (hle : x_le u' u1)
    (cw : ∀ mc ms : Nat, va_CN (xR i u0 u1) s args own index ic.1 host ic.2.1 ic.2.2.1 ic.2.2.2.1 ic.2.2.2.2.1 { frames := ic.2.2.2.2.2.1, cells := mc, slots := ms, locals := ic.2.2.2.2.2.2 } mc ms n ∧ (Cond.static ic.1).before args s = true ∧ True) (hn : As.length = n) (hl : ls.size = nL) (hst : st0 = As.reverse ++ rest) (hr8 : (rest.map fun v => v.category).sum ≤ 8) (hdg : decode cc pc = .ok (.invokestatic index, 3))
    (kk : ∀ (H1 : Heap) (locs1 : List Loc), XW l Z A u0 u' s H1 locs1 → W p l e (xR i u0 u1) s m args below meth c H1 locs1 (u'.2.1 - u0.2.1) (u'.2.2 - u0.2.2) Q (F0 m (pc + 3) ls (rv.toList ++ rest))) : W p l e (xR i u0 u1) s m args below meth c H locs (u.2.1 - u0.2.1) (u.2.2 - u0.2.2) Q (F0 m pc ls st0) := by
  obtain ⟨g1, g2, g3⟩ := x_cost hw.2.2.2.2.2.2 hM.1 hle
  refine xr_back hw hM.1 (va_runSN (As := As) (rest := rest) F hM.2 (cw _ _) ⟨XP.blind, fun U hU hW => ⟨rfl, xr_pre hw hU hW⟩⟩ rfl hn hl hst (lv_room hr8) hdg g1) (fun H1 locs1 hw1 => ?_)
  rw [g2, g3]
  exact kk H1 locs1 hw1
theorem xr_cI {u1 : PS} {nL n index : Nat} {Ts : List Cond} {own : String} {ic : XI} {b : Nat} {As st0 : List Value} (F : CallFix p m c cc nL s args Ts own) (hw : XW l Z A u0 u s H locs) (hM : XMet l Z ic (.ref b :: As) u none u') (hle : x_le u' u1)
    (cw : ∀ mc ms : Nat, CallB (xR i u0 u1) s args own index ic.1 ic.2.1 ic.2.2.1 none ic.2.2.2.2.1 { frames := ic.2.2.2.2.2.1, cells := mc, slots := ms, locals := ic.2.2.2.2.2.2 } mc ms n ∧ ic.1.name = "<init>" ∧ (Cond.instanceMethod ic.1).before args s = true) (hn : As.length = n) (hl : ls.size = nL) (hst : st0 = As.reverse ++ .ref b :: rest) (hr8 : (rest.map fun v => v.category).sum ≤ 8) (hdg : decode cc pc = .ok (.invokespecial index, 3))
    (kk : ∀ (H1 : Heap) (locs1 : List Loc), XW l Z A u0 u' s H1 locs1 → W p l e (xR i u0 u1) s m args below meth c H1 locs1 (u'.2.1 - u0.2.1) (u'.2.2 - u0.2.2) Q (F0 m (pc + 3) ls rest)) : W p l e (xR i u0 u1) s m args below meth c H locs (u.2.1 - u0.2.1) (u.2.2 - u0.2.2) Q (F0 m pc ls st0) := by
  obtain ⟨g1, g2, g3⟩ := x_cost hw.2.2.2.2.2.2 hM.1 hle
  refine xr_back hw hM.1 (va_runI (As := As) (rest := rest) F hM.2 (cw _ _) ⟨XP.blind, fun U hU hW => ⟨rfl, xr_pre hw hU hW⟩⟩ rfl hn hl hst (lv_room hr8) hdg g1) (fun H1 locs1 hw1 => ?_)
  rw [g2, g3]
  exact kk H1 locs1 hw1
-- a method's end
theorem xr_end {t : State} (hw : XW l Z A u0 u s H locs) (ht : t.heap = H) (rv : Option Value) : XQ Z A rv u args s (.returned rv) t := by
  obtain ⟨hK, hM, hA, hS, hA2, hG, hle⟩ := hw
  exact ⟨rfl, by rw [ht]; exact hM, hA, hS.F ht⟩
theorem xr_vret (F : XF p s m args meth c i) (hret : i.2.2.2.1 = none) (hw : XW l Z A u0 u s H locs) (hdg : decode i.2.1 pc = .ok (.return_, 1)) : W p l e R s m args below meth c H locs (u.2.1 - u0.2.1) (u.2.2 - u0.2.2) (MQ below (XQ Z A none u) args s (u.2.1 - u0.2.1) (u.2.2 - u0.2.2) A) (F0 m pc ls []) :=
  W.vret F.1.1 F.1.2.1 (F.2.1.trans hret) (fun t ht hW => xr_end hw ht none) hw.2.2.2.1.2.2 hdg F.2.2.1
theorem xr_iret {x : Int32} (F : XF p s m args meth c i) (hret : i.2.2.2.1 = some .int) (hw : XW l Z A u0 u s H locs) (hdg : decode i.2.1 pc = .ok (.ireturn, 1)) : W p l e R s m args below meth c H locs (u.2.1 - u0.2.1) (u.2.2 - u0.2.2) (MQ below (XQ Z A (some (.int x)) u) args s (u.2.1 - u0.2.1) (u.2.2 - u0.2.2) A) (F0 m pc ls [.int x]) :=
  W.iret F.1.1 F.1.2.1 (F.2.1.trans hret) (fun t ht hW => xr_end hw ht _) hw.2.2.2.1.2.2 hdg F.2.2.1
theorem xr_lret {x : Int64} (F : XF p s m args meth c i) (hret : i.2.2.2.1 = some .long) (hw : XW l Z A u0 u s H locs) (hdg : decode i.2.1 pc = .ok (.lreturn, 1)) : W p l e R s m args below meth c H locs (u.2.1 - u0.2.1) (u.2.2 - u0.2.2) (MQ below (XQ Z A (some (.long x)) u) args s (u.2.1 - u0.2.1) (u.2.2 - u0.2.2) A) (F0 m pc ls [.long x]) :=
  W.lret F.1.1 F.1.2.1 (F.2.1.trans hret) (fun t ht hW => xr_end hw ht _) hw.2.2.2.1.2.2 hdg F.2.2.1
theorem xr_zret {x : Int32} (F : XF p s m args meth c i) (hret : i.2.2.2.1 = some .boolean) (hz : xZ x) (hw : XW l Z A u0 u s H locs) (hdg : decode i.2.1 pc = .ok (.ireturn, 1)) : W p l e R s m args below meth c H locs (u.2.1 - u0.2.1) (u.2.2 - u0.2.2) (MQ below (XQ Z A (some (.int x)) u) args s (u.2.1 - u0.2.1) (u.2.2 - u0.2.2) A) (F0 m pc ls [.int x]) :=
  W.zret F.1.1 F.1.2.1 (F.2.1.trans hret) (by rcases hz with rfl | rfl <;> rfl) (fun t ht hW => xr_end hw ht _) hw.2.2.2.1.2.2 hdg F.2.2.1
theorem xr_aret {b : Nat} {ty : FieldType} (F : XF p s m args meth c i) (hret : i.2.2.2.1 = some (.array ty)) (hw : XW l Z A u0 u s H locs) (hdg : decode i.2.1 pc = .ok (.areturn, 1)) : W p l e R s m args below meth c H locs (u.2.1 - u0.2.1) (u.2.2 - u0.2.2) (MQ below (XQ Z A (some (.ref b)) u) args s (u.2.1 - u0.2.1) (u.2.2 - u0.2.2) A) (F0 m pc ls [.ref b]) :=
  W.aret F.1.1 F.1.2.1 (F.2.1.trans hret) (Or.inr ⟨_, rfl⟩) (Or.inr ⟨_, rfl⟩) (fun t ht hW => xr_end hw ht _) hw.2.2.2.1.2.2 hdg F.2.2.1
end XR
/-- a method's contract out of the walk from its entry -/
theorem x_met {l : Launch} {Z : XZ} {i : XI} {u : PS} {K : Option Value → PS → Prop} {av : List Value} {ws' : List Cond} (hy : plainName i.1.cls = true) (hws : i.2.2.2.2.1 = Cond.code i.1 i.2.1 i.2.2.1 i.2.2.2.1 :: ws') (hlen : (lg_sl av).length ≤ i.2.2.1) (k : XN l Z i u K u 0 (lv_args 0 av) []) : ∃ (rv : Option Value) (u1 : PS), K rv u1 ∧ XMet l Z i av u rv u1 := by
  obtain ⟨rv, u1, hK, hle, w⟩ := k
  refine ⟨rv, u1, hK, hle, ?_⟩
  refine Met.ofW (cc := i.2.1) (maxL := i.2.2.1) (ret := i.2.2.2.1) hy hws ?_
  intro p e s m args below meth c s₁ B hml hv
  obtain ⟨rfl, hKK, hM, hG⟩ := hv
  have F : XF p s m av.toArray meth c i := ⟨⟨B.exec, B.bytes, hml, findClass_of_methodNamed B.named, atoms_spec (ws := i.2.2.2.2.1) B.pre⟩, B.returns, B.notSynchronized, (name_of_methodNamed B.named B.method).1⟩
  have hl := lv_entry av (n := i.2.2.1) hlen
  rw [lg_entry_eq]
  have hw : XW l Z (xA u) u u s s.heap [] := ⟨hKK, hM, fun a e h => Or.inl ⟨e, h⟩, va_S.rf, fun q h => Or.inr (by rw [← hM.2]; exact h), hG, x_le.rf u⟩
  have := w p e s m av.toArray below meth c (xA u) s.heap [] _ F hw hl
  rw [Nat.sub_self, Nat.sub_self] at this
  exact this
