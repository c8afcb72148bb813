/-! methods that end by an exception: contracts of the same kind, with the exception's class and the end state told exactly -/
def x_th (u : PS) : PS := (u.1, u.2.1 + 1, u.2.2 + 6)
theorem x_th.le (u : PS) : x_le u (x_th u) := ⟨Nat.le_succ _, Nat.le_add_right _ _⟩
def XT (Z : XZ) (A : Nat → Prop) (E : String) (u1 : PS) (mc ms : Nat) (st : State) (q : Addr) (t : State) : Prop :=
  x_M Z u1 t.heap ∧ (∀ (a : Nat) (e : PE), u1.1 a = some e → A a) ∧ va_F A st t ∧ ∃ (ce : Cell) (L : List Loc), t.heap[q]? = some ce ∧ ce.vm = .none ∧ st.vm.findClass E = some ce.cls ∧ st.WarmedH t.vm ∧ st.sameButNew ({ t with vm := st.vm } : State) L mc ms ∧ ∀ z ∈ L, A z.base
def MT (below : List Frame) (Z : XZ) (A : Nat → Prop) (E : String) (u1 : PS) (s : State) (mc ms : Nat) : State → Prop := fun t => ∃ q : Addr, t.status = .running ∧ Ended t below (.threw q) ∧ XT Z A E u1 mc ms s q t
def XEt (l : Launch) (Z : XZ) (i : XI) (u0 u : PS) (E : String) (u1 : PS) (pc : Nat) (lv : List (Nat × Value)) (st : List Value) : Prop :=
  ∀ (p : Program) (e : Env) (s : State) (m : MethodId) (args : Array Value) (below : List Frame) (meth : Method) (c : Code) (A : Nat → Prop) (H : Heap) (locs : List Loc) (ls : Array Slot), XF p s m args meth c i → (∀ x ∈ c.exceptionTable.toList, False) → XW l Z A u0 u s H locs → lv_has ls i.2.2.1 lv →
    W p l e (xR i u0 u1) s m args below meth c H locs (u.2.1 - u0.2.1) (u.2.2 - u0.2.2) (MT below Z A E u1 s (u1.2.1 - u0.2.1) (u1.2.2 - u0.2.2)) (F0 m pc ls st)
def XNt (l : Launch) (Z : XZ) (i : XI) (u0 : PS) (X : String → PS → Prop) (u : PS) (pc : Nat) (lv : List (Nat × Value)) (st : List Value) : Prop := ∃ (E : String) (u1 : PS), X E u1 ∧ x_le u u1 ∧ XEt l Z i u0 u E u1 pc lv st
/-- it answers, or it throws -/
def XNx (l : Launch) (Z : XZ) (i : XI) (u0 : PS) (K : Option Value → PS → Prop) (X : String → PS → Prop) (u : PS) (pc : Nat) (lv : List (Nat × Value)) (st : List Value) : Prop := XN l Z i u0 K u pc lv st ∨ XNt l Z i u0 X u pc lv st
def XMt (l : Launch) (Z : XZ) (i : XI) (av : List Value) (u : PS) (E : String) (u1 : PS) : Prop :=
  x_le u u1 ∧ MetFree l i.1 (headSpec i.2.2.2.2.1 (xR i u u1)) (va_Pc av (XP l Z u)) (fun _ _ _ _ _ => True) (fun _ st oc t => ∃ q : Addr, oc = .threw q ∧ XT Z (xA u) E u1 (u1.2.1 - u.2.1) (u1.2.2 - u.2.2) st q t)
theorem x_metx {l : Launch} {Z : XZ} {i : XI} {u : PS} {K : Option Value → PS → Prop} {X : String → PS → Prop} {av : List Value} {ws' : List Cond} (hy : plainName i.1.cls = true) (hws : i.2.2.2.2.1 = Cond.code i.1 i.2.1 i.2.2.1 i.2.2.2.1 :: ws') (hlen : (lg_sl av).length ≤ i.2.2.1) (k : XNx l Z i u K X u 0 (lv_args 0 av) []) :
    (∃ (rv : Option Value) (u1 : PS), K rv u1 ∧ XMet l Z i av u rv u1) ∨ (∃ (E : String) (u1 : PS), X E u1 ∧ XMt l Z i av u E u1) := by
  rcases k with k | ⟨E, u1, hX, hle, w⟩
  · exact Or.inl (x_met hy hws hlen k)
  refine Or.inr ⟨E, u1, hX, hle, ?_⟩
  refine MetFree.of_bodyS (code := i.2.1) (maxLocals := i.2.2.1) (ret := i.2.2.2.1) hy ?_ ?_
  · intro args s m h hn
    obtain ⟨meth, c, h1, h2, h3, h4, h5, h6, -, -⟩ := Cond.code_spec hn (atoms_spec (ws := i.2.2.2.2.1) h _ (by rw [hws]; exact List.mem_cons_self))
    exact ⟨meth, c, h1, h2, h3, h4, h5, h6⟩
  · intro p e s m args below meth c s₁ B hml hv _
    have hh0 : s₁.heap = s.heap := by rw [B.state]; rfl
    obtain ⟨rfl, hKK, hM, hG⟩ := hv
    have hno : ∀ x ∈ c.exceptionTable.toList, False := by
      obtain ⟨meth9, c9, h1, h2, -, -, -, -, h7, -⟩ := Cond.code_spec B.named (atoms_spec (ws := i.2.2.2.2.1) B.pre _ (by rw [hws]; exact List.mem_cons_self))
      cases Option.some.inj (h1.symm.trans B.method)
      cases Option.some.inj (h2.symm.trans (Stand.of_body B).code)
      intro x hx
      rw [Array.isEmpty_iff.mp h7] at hx
      cases hx
    have F : XF p s m av.toArray meth c i := ⟨⟨B.exec, B.bytes, hml, findClass_of_methodNamed B.named, atoms_spec (ws := i.2.2.2.2.1) B.pre⟩, B.returns, B.notSynchronized, (name_of_methodNamed B.named B.method).1⟩
    have hl := lv_entry av (n := i.2.2.1) hlen
    have hw : XW l Z (xA u) u u s s.heap [] := ⟨hKK, hM, fun a e h => Or.inl ⟨e, h⟩, va_S.rf, fun q h => Or.inr (by rw [← hM.2]; exact h), hG, x_le.rf u⟩
    have w1 := w p e s m av.toArray below meth c (xA u) s.heap [] _ F hno hw hl
    rw [Nat.sub_self, Nat.sub_self, ← lg_entry_eq] at w1
    obtain ⟨t, a1, q, b1, b2, b3⟩ := w1 s₁ hh0 (Stand.of_body B)
    exact ⟨t, .threw q, a1, b1, b2, q, rfl, b3⟩
section XRT
variable {p : Program} {l : Launch} {e : Env} {R : Room} {s : State} {m : MethodId} {args : Array Value} {below : List Frame} {meth : Method} {c : Code} {H : Heap} {locs : List Loc} {cells slots : Nat} {Q : State → Prop}
variable {cc : ByteArray} {pc : Nat} {ls : Array Slot} {rest : List Value} {Z : XZ} {A : Nat → Prop} {u0 u u' : PS} {a : Nat} {i : XI}
/-- behind the jump into a callee that throws: the machine is back over the caller's frame, throwing -/
theorem xt_back {ic : XI} {E : String} {av : List Value} {U : State} {g : JFrame} {ig : Instr} {len : Nat} {mk : MethodId} (hM : XMt l Z ic av u E u') (X : Stand p l e R s m args below meth c U locs cells slots) (hg : g.method = m) (hsize : g.locals.size = c.maxLocals) (hdg : decode c.code g.pc = .ok (ig, len))
    (hn : U.methodNamed? ic.1 = some mk) (hP : XP l Z u U) (hws : ∀ w ∈ ic.2.2.2.2.1, ∀ (a' : Array Value) (V : State), s.WarmedH V.vm → w.before a' V = true) (hcode : Cond.code ic.1 ic.2.1 ic.2.2.1 ic.2.2.2.1 ∈ ic.2.2.2.2.1) (hini : (Cond.initialized ic.1.cls).before av.toArray U = true)
    (hW : 2 * g.monitorRoom + (g.stack.map fun v => v.category).sum ≤ 8) (hfr : ic.2.2.2.2.2.1 + 1 ≤ R.frames) (hlo : 8 + (ic.2.2.1 + 11) + ic.2.2.2.2.2.2 ≤ R.locals) (hc : cells + (u'.2.1 - u.2.1) ≤ R.cells) (hs : slots + (u'.2.2 - u.2.2) ≤ R.slots) :
    ∃ (q : Addr) (T' t : State) (L : List Loc), Stand p l e R s m args below meth c T' (locs ++ L) (cells + (u'.2.1 - u.2.1)) (slots + (u'.2.2 - u.2.2)) ∧ T'.heap = t.heap ∧ T'.vm = t.vm ∧ (∀ z ∈ L, xA u z.base) ∧ x_M Z u' t.heap ∧ (∀ (a : Nat) (e : PE), u'.1 a = some e → xA u a) ∧ va_F (xA u) U t ∧
      (∃ ce : Cell, t.heap[q]? = some ce ∧ ce.vm = .none ∧ U.vm.findClass E = some ce.cls) ∧ Steps p.tables e below (doInvoke e (U.setTop g) [] mk av.toArray).1 ((T'.setTop g).pushFrame (.throwing q)) := by
  have h1 : (headSpec ic.2.2.2.2.1 (xR ic u u')).pre.before av.toArray U = true := atoms_intro fun w hw => hws w hw _ _ X.warmed
  have h2 : (Cond.code ic.1 ic.2.1 ic.2.2.1 ic.2.2.2.1).before av.toArray U = true := hws _ hcode _ _ X.warmed
  have hPc : va_Pc av (XP l Z u) av.toArray (U.calling g mk av.toArray) := XP.blind _ _ _ _ ⟨rfl, hP⟩
  obtain ⟨methY, cY, hmY, hcY, -, hlY, -, -, -, -⟩ := Cond.code_spec hn h2
  obtain ⟨kY, hkY, -⟩ := className_of_methodNamed hn
  have hinitY : kY.init = .initialized := Cond.initialized_spec (findClass_of_methodNamed hn) hkY hini
  have h : At U g.method c below := by rw [hg]; exact X.here
  have happ : (headSpec ic.2.2.2.2.1 (xR ic u u')).appliesLoose ic.1 e.platform (U.calling g mk av.toArray) = true :=
    Spec.appliesLoose_calling (g := g) h hdg hn hkY hinitY
      (X.room_calling (g := g) (R' := xR ic u u') hsize hmY hcY hfr (by rw [hlY]; show _ + _ + ic.2.2.2.2.2.2 ≤ _; omega) hc hs) h1
  obtain ⟨mid, hmid⟩ := h.above
  have hfr9 : (U.setTop g).frames = (.java g :: mid) ++ below := by rw [State.frames_setTop' g h.top, hmid]; rfl
  obtain ⟨o, s₂, hsteps, -, hend, hq⟩ := Steps.callFree hM.2 p X.admits X.cas X.clock (acts := []) hfr9 happ hPc trivial
  have hq9 : ∃ q : Addr, o = .threw q ∧ XT Z (xA u) E u' (u'.2.1 - u.2.1) (u'.2.2 - u.2.2) (U.calling g mk av.toArray) q s₂ := hq
  obtain ⟨q, rfl, hM1, hd, hF, ce, L, hce, hcv, hcl, hW₂, hsm, hL⟩ := hq9
  rw [State.frames_setTop' g h.top] at hend
  obtain ⟨g₀, hg0⟩ := Option.isSome_iff_exists.mp h.top
  obtain ⟨r, hr⟩ := State.topJava?_eq_some.mp hg0
  have hr' : (({ U with heap := s₂.heap, slotsUsed := s₂.slotsUsed } : State).setVm s₂.vm).frames = .java g₀ :: r := hr
  obtain ⟨e2, q2, q3, q4, q5, q6⟩ := id hsm
  have e3 : s₂ = ({ (U.calling g mk av.toArray).setFrames s₂.frames with heap := s₂.heap, slotsUsed := s₂.slotsUsed } : State).setVm s₂.vm := by
    have : s₂ = ({ s₂ with vm := (U.calling g mk av.toArray).vm } : State).setVm s₂.vm := rfl
    rw [e2] at this
    exact this
  have hf₂ : s₂.frames = .throwing q :: .java g :: U.frames.tail := hend
  have hW' : U.WarmedH s₂.vm := hW₂
  have hs₂ : s₂ = ((({ U with heap := s₂.heap, slotsUsed := s₂.slotsUsed } : State).setVm s₂.vm).setTop g).pushFrame (.throwing q) := by
    refine e3.trans ?_
    rw [hf₂, State.calling_eq h.top, State.setFrames_setFrames, State.pushFrame, State.frames_setTop _ hr', State.setTop_of_frames _ hr', State.setFrames_setFrames, hr]
    rfl
  have hsame : U.sameButNew ({ U with heap := s₂.heap, slotsUsed := s₂.slotsUsed } : State) L (u'.2.1 - u.2.1) (u'.2.2 - u.2.2) := by
    refine ⟨?_, q2, q3, q4, q5, q6⟩
    obtain ⟨t, ht, -⟩ := State.frames_cons hr
    show ({ U with heap := s₂.heap, slotsUsed := s₂.slotsUsed } : State) = { U.setFrames U.frames with heap := s₂.heap, slotsUsed := s₂.slotsUsed }
    rw [State.setFrames_self ht]
  subst hg
  refine ⟨q, (({ U with heap := s₂.heap, slotsUsed := s₂.slotsUsed } : State).setVm s₂.vm), s₂, L,
    ⟨X.admits, X.cas, X.clock, X.frames, X.room, X.hears, X.method, X.code, (X.here.setHeapUsed s₂.heap s₂.slotsUsed).setVm hW'.alike, X.tail, State.WarmedH.trans X.warmed hW', X.limits, X.bytes, X.same.trans (hsame.setVm s.vm)⟩, rfl, rfl, hL, hM1, hd, hF, ⟨ce, hce, hcv, hcl⟩, ?_⟩
  rw [← hs₂]
  exact hsteps
/-- .. and what that says in the caller's own words -/
theorem xt_world {T' t U : State} {L : List Loc} (hw : XW l Z A u0 u s H locs) (hle : x_le u u') (hU : U.heap = H) (e1 : T'.heap = t.heap) (hL : ∀ z ∈ L, xA u z.base) (hM1 : x_M Z u' t.heap) (hd : ∀ (a : Nat) (e : PE), u'.1 a = some e → xA u a) (hF : va_F (xA u) U t) : XW l Z A u0 u' s T'.heap (locs ++ L) := by
  have hsub := hw.sub
  obtain ⟨hK, hM, hA, hS, hA2, hG, hle0⟩ := hw
  obtain ⟨hz, hk⟩ := hF
  rw [hU] at hz hk
  exact ⟨hK, by rw [e1]; exact hM1, fun a e h => hsub a (hd a e h),
    ⟨Nat.le_trans hS.1 (by rw [e1]; exact hz), fun q h1 h2 => by rw [e1, hk q (Nat.lt_of_lt_of_le h1 hS.1) (fun z => h2 (hsub q z))]; exact hS.2.1 q h1 h2, fun q hq => by
      rcases List.mem_append.mp hq with h | h
      · exact hS.2.2 q h
      · exact hsub _ (hL q h)⟩, hA2, hG, hle0.tr hle⟩
/-- a call that throws: static -/
theorem xt_cS {u1 : PS} {nL n index : Nat} {Ts : List Cond} {own : String} {ic : XI} {E : String} {As st0 : List Value} (F : CallFix p m c cc nL s args Ts own) (hw : XW l Z A u0 u s H locs) (hM : XMt l Z ic As u E u') (hle : x_le u' u1)
    (cw : ∀ mc ms : Nat, CallB (xR i u0 u1) s args own index ic.1 ic.2.1 ic.2.2.1 ic.2.2.2.1 ic.2.2.2.2.1 { frames := ic.2.2.2.2.2.1, cells := mc, slots := ms, locals := ic.2.2.2.2.2.2 } mc ms n ∧ (Cond.static ic.1).before args s = true) (hn : As.length = n) (hl : ls.size = nL) (hst : st0 = As.reverse ++ rest) (hr8 : (rest.map fun v => v.category).sum ≤ 8) (hdg : decode cc pc = .ok (.invokestatic index, 3))
    (kx : ∀ (q : Addr) (ce : Cell) (H1 : Heap) (locs1 : List Loc) (T : State), XW l Z A u0 u' s H1 locs1 → H1[q]? = some ce → ce.vm = .none → s.vm.findClass E = some ce.cls → T.heap = H1 → Stand p l e (xR i u0 u1) s m args below meth c T locs1 (u'.2.1 - u0.2.1) (u'.2.2 - u0.2.2) → ∃ t, Steps p.tables e below ((T.setTop (F0 m pc ls rest)).pushFrame (.throwing q)) t ∧ Q t) :
    W p l e (xR i u0 u1) s m args below meth c H locs (u.2.1 - u0.2.1) (u.2.2 - u0.2.2) Q (F0 m pc ls st0) := by
  obtain ⟨g1, g2, g3⟩ := x_cost hw.2.2.2.2.2.2 hM.1 hle
  obtain ⟨⟨-, -, hfr, hlo, hws, hcw, hcode, hini, hy, hlen, hlk⟩, hstt⟩ := cw 0 0
  obtain ⟨hx, hb, hml, ho, -⟩ := F
  intro T hT X
  obtain ⟨mk, hnamed⟩ := Cond.code_named hcode
  obtain ⟨methM, cM, hmethM, -, -, -, -, -, -, hsigM⟩ := Cond.code_spec hnamed hcode
  have hstatic : methM.isStatic = true := Cond.static_spec hnamed hmethM hstt
  obtain ⟨kP, hkP, -⟩ := className_of_methodNamed hnamed
  have hinitP : kP.init = .initialized := Cond.initialized_spec (findClass_of_methodNamed hnamed) hkP hini
  obtain ⟨vm₁, X₁, hstep₁⟩ := X.invokestatic hx ho hlk hnamed hmethM hstatic hkP hinitP hy (g := F0 m pc ls st0) rfl (argsL := As) (rest := rest) (hn.trans (hlen _ hsigM)) hst (by rw [hb]; exact hdg)
  have hU : (T.setVm vm₁).heap = H := hT
  obtain ⟨q, T', t, L, X', e1, e2, hL, hM1, hd, hF, ⟨ce, hce, hcv, hcl⟩, hsteps⟩ := xt_back (g := F0 m pc ls rest) hM X₁ rfl (hl.trans hml.symm) (by rw [hb]; exact hdg) (X₁.named hnamed) (xr_pre hw hU X₁.warmed) hws hcw (word_at X₁.warmed (Or.inl (by first | rfl | simp [Cond.onTables, Cond.keeps, Cond.steady])) hini) (lv_room hr8) hfr hlo g1.1 g1.2
  rw [g2, g3] at X'
  have hcl' : s.vm.findClass E = some ce.cls := by
    rw [X₁.warmed.alike.findClass] at hcl
    exact hcl
  obtain ⟨t2, a1, b1⟩ := kx q ce T'.heap (locs ++ L) T' (xt_world hw hM.1 hU e1 hL hM1 hd hF) (by rw [e1]; exact hce) hcv hcl' rfl X'
  exact ⟨t2, hstep₁ _ fun acts => by rw [doInvoke_state]; exact hsteps.trans a1, b1⟩
/-- .. on an object -/
theorem xt_cV {u1 : PS} {nL n index : Nat} {Ts : List Cond} {own C : String} {ic : XI} {E : String} {b ci : Nat} {As st0 : List Value} {qc : vw_C} (F : CallFix p m c cc nL s args Ts own) (hw : XW l Z A u0 u s H locs) (hM : XMt l Z ic (.ref b :: As) u E u') (hle : x_le u' u1)
    (cw : ∀ mc ms : Nat, CallW (xR i u0 u1) s args own C index ic.1 ic.2.1 ic.2.2.1 ic.2.2.2.1 ic.2.2.2.2.1 { frames := ic.2.2.2.2.2.1, cells := mc, slots := ms, locals := ic.2.2.2.2.2.2 } mc ms n) (hq : vwCl[ci]? = some qc) (hqC : qc.1 = C) (hob : x_ob u b ci) (hn : As.length = n) (hl : ls.size = nL) (hst : st0 = As.reverse ++ .ref b :: rest) (hr8 : (rest.map fun v => v.category).sum ≤ 8) (hdg : decode cc pc = .ok (.invokevirtual index, 3))
    (kx : ∀ (q : Addr) (ce : Cell) (H1 : Heap) (locs1 : List Loc) (T : State), XW l Z A u0 u' s H1 locs1 → H1[q]? = some ce → ce.vm = .none → s.vm.findClass E = some ce.cls → T.heap = H1 → Stand p l e (xR i u0 u1) s m args below meth c T locs1 (u'.2.1 - u0.2.1) (u'.2.2 - u0.2.2) → ∃ t, Steps p.tables e below ((T.setTop (F0 m pc ls rest)).pushFrame (.throwing q)) t ∧ Q t) :
    W p l e (xR i u0 u1) s m args below meth c H locs (u.2.1 - u0.2.1) (u.2.2 - u0.2.2) Q (F0 m pc ls st0) := by
  obtain ⟨g1, g2, g3⟩ := x_cost hw.2.2.2.2.2.2 hM.1 hle
  subst hqC
  obtain ⟨cellB, hcB, hoB, hclB⟩ := xr_recv hw hq hob
  obtain ⟨⟨-, -, hfr, hlo, hws, hcw, hcode, hini, hy, hlen, hlk⟩, hin, hse⟩ := cw 0 0
  obtain ⟨hx, hb, hml, ho, -⟩ := F
  intro T hT X
  obtain ⟨mk, methM, hnamed, hmethM, hstM, habM⟩ := Cond.instanceMethod_spec hin
  obtain ⟨methM', cM, hmethM', -, -, -, -, -, -, hsigM⟩ := Cond.code_spec hnamed hcode
  cases hmethM.symm.trans hmethM'
  obtain ⟨c2, r2, m2, q1, q2, q3, q4, kP, hkP, hkPi⟩ := Cond.selects_spec hse
  cases hclB.symm.trans q1
  cases (State.methodFound?_of_named hnamed hy).symm.trans q2
  cases hnamed.symm.trans q3
  have hselP : selectMethod e.platform s.vm cellB.cls mk = .method mk := by rw [Launch.admits_selectMethod X.admits]; exact q4
  obtain ⟨vm₁, X₁, hstep₁⟩ := X.invokevirtual hx ho hlk hnamed hmethM hstM hkP hkPi hy (a := b) (cell := cellB) (by rw [hT]; exact hcB)
    (fun z h => by rw [h] at hoB; cases hoB) hselP hmethM habM hkP hkPi (g := F0 m pc ls st0) rfl (argsL := As) (rest := rest) (hn.trans (hlen _ hsigM)) hst (by rw [hb]; exact hdg)
  have hU : (T.setVm vm₁).heap = H := hT
  obtain ⟨q, T', t, L, X', e1, e2, hL, hM1, hd, hF, ⟨ce, hce, hcv, hcl⟩, hsteps⟩ := xt_back (g := F0 m pc ls rest) hM X₁ rfl (hl.trans hml.symm) (by rw [hb]; exact hdg) (X₁.named hnamed) (xr_pre hw hU X₁.warmed) hws hcw (word_at X₁.warmed (Or.inl (by first | rfl | simp [Cond.onTables, Cond.keeps, Cond.steady])) hini) (lv_room hr8) hfr hlo g1.1 g1.2
  rw [g2, g3] at X'
  have hcl' : s.vm.findClass E = some ce.cls := by
    rw [X₁.warmed.alike.findClass] at hcl
    exact hcl
  obtain ⟨t2, a1, b1⟩ := kx q ce T'.heap (locs ++ L) T' (xt_world hw hM.1 hU e1 hL hM1 hd hF) (by rw [e1]; exact hce) hcv hcl' rfl X'
  exact ⟨t2, hstep₁ _ fun acts => by rw [doInvoke_state]; exact hsteps.trans a1, b1⟩
/-- no handler: the exception leaves the method -/
theorem xt_out {E : String} {q : Addr} {ce : Cell} {T : State} (F : XF p s m args meth c i) (hno : ∀ x ∈ c.exceptionTable.toList, False) (hw : XW l Z A u0 u s H locs) (hce : H[q]? = some ce) (hcv : ce.vm = .none) (hcl : s.vm.findClass E = some ce.cls) (hT : T.heap = H) (X : Stand p l e R s m args below meth c T locs (u.2.1 - u0.2.1) (u.2.2 - u0.2.2)) :
    ∃ t, Steps p.tables e below ((T.setTop (F0 m pc ls rest)).pushFrame (.throwing q)) t ∧ MT below Z A E u s (u.2.1 - u0.2.1) (u.2.2 - u0.2.2) t := by
  obtain ⟨hK, hM, hA, hS, hA2, hG, hle⟩ := hw
  obtain ⟨st1, hrun, hend, hW, hsm⟩ := X.leaveThrown q (g := F0 m pc ls rest) rfl rfl rfl (fun x hx => (hno x hx).elim) F.2.2.1
  have hh : (T.setFrames (.throwing q :: below)).heap = H := hT
  exact ⟨_, st1, q, hrun, hend, by rw [hh]; exact hM, hA, hS.F hh, ce, locs, by rw [hh]; exact hce, hcv, hcl, hW, hsm, hS.2.2⟩
end XRT
