/-! methods with an exception table: what they catch -/
def XEh (hh : List (Nat × Nat × Nat × Nat)) (l : Launch) (Z : XZ) (i : XI) (u0 u : PS) (rv : Option Value) (u1 : PS) (pc : Nat) (lv : List (Nat × Value)) (st : List Value) : Prop :=
  ∀ (p : Program) (e : Env) (s : State) (m : MethodId) (args : Array Value) (below : List Frame) (meth : Method) (c : Code) (A : Nat → Prop) (H : Heap) (locs : List Loc) (ls : Array Slot), XF p s m args meth c i → c.exceptionTable.toList = tableOf hh → XW l Z A u0 u s H locs → lv_has ls i.2.2.1 lv →
    W p l e (xR i u0 u1) s m args below meth c H locs (u.2.1 - u0.2.1) (u.2.2 - u0.2.2) (MQ below (XQ Z A rv u1) args s (u1.2.1 - u0.2.1) (u1.2.2 - u0.2.2) A) (F0 m pc ls st)
def XNh (hh : List (Nat × Nat × Nat × Nat)) (l : Launch) (Z : XZ) (i : XI) (u0 : PS) (K : Option Value → PS → Prop) (u : PS) (pc : Nat) (lv : List (Nat × Value)) (st : List Value) : Prop := ∃ (rv : Option Value) (u1 : PS), K rv u1 ∧ x_le u u1 ∧ XEh hh l Z i u0 u rv u1 pc lv st
theorem x_meth {hh : List (Nat × Nat × Nat × Nat)} {l : Launch} {Z : XZ} {i : XI} {u : PS} {K : Option Value → PS → Prop} {av : List Value} {ws' : List Cond} (hy : plainName i.1.cls = true) (hws : i.2.2.2.2.1 = Cond.codeWith i.1 i.2.1 i.2.2.1 i.2.2.2.1 hh :: ws') (hlen : (lg_sl av).length ≤ i.2.2.1) (k : XNh hh l Z i u K u 0 (lv_args 0 av) []) : ∃ (rv : Option Value) (u1 : PS), K rv u1 ∧ XMet l Z i av u rv u1 := by
  obtain ⟨rv, u1, hK, hle, w⟩ := k
  refine ⟨rv, u1, hK, hle, ?_⟩
  refine va_MetW (hh := hh) (cc := i.2.1) (maxL := i.2.2.1) (ret := i.2.2.2.1) hy hws ?_
  intro p e s m args below meth c s₁ B hml hv
  obtain ⟨rfl, hKK, hM, hG⟩ := hv
  have htab : c.exceptionTable.toList = tableOf hh := by
    obtain ⟨m9, meth9, c9, hn9, h1, h2, -, -, h6, -⟩ := Cond.codeWith_spec (atoms_spec (ws := i.2.2.2.2.1) B.pre _ (by rw [hws]; exact List.mem_cons_self))
    cases Option.some.inj (hn9.symm.trans B.named)
    cases Option.some.inj (h1.symm.trans B.method)
    cases Option.some.inj (h2.symm.trans (Stand.of_body B).code)
    rw [← h6, table_eq]
  have F : XF p s m av.toArray meth c i := ⟨⟨B.exec, B.bytes, hml, findClass_of_methodNamed B.named, atoms_spec (ws := i.2.2.2.2.1) B.pre⟩, B.returns, B.notSynchronized, (name_of_methodNamed B.named B.method).1⟩
  have hl := lv_entry av (n := i.2.2.1) hlen
  rw [lg_entry_eq]
  have hw : XW l Z (xA u) u u s s.heap [] := ⟨hKK, hM, fun a e h => Or.inl ⟨e, h⟩, va_S.rf, fun q h => Or.inr (by rw [← hM.2]; exact h), hG, x_le.rf u⟩
  have := w p e s m av.toArray below meth c (xA u) s.heap [] _ F htab hw hl
  rw [Nat.sub_self, Nat.sub_self] at this
  exact this
theorem XG.cast {l : Launch} {Z : XZ} {A : Nat → Prop} {U : State} {H : Heap} (h : XG l Z A U H) {C T : String} (hm : Cond.castable C T ∈ tables_1) (args : Array Value) : (Cond.castable C T).before args U = true := by
  obtain ⟨b, hb, -⟩ := h.1.2.1
  exact va_Nw.warmC h.2.1 (hb _ (List.mem_append_right _ hm))
theorem XG.nocast {l : Launch} {Z : XZ} {A : Nat → Prop} {U : State} {H : Heap} (h : XG l Z A U H) {C T : String} (hm : Cond.not (.castable C T) ∈ flatC (Jvm.Cond.and given_1 narrow_1)) : va_Nc C T U := by
  obtain ⟨b, -, hn⟩ := h.1.2.1
  exact va_Nc.moved h.2.1.alike (va_Nc.of (flat_of_before _ hn _ hm))
section XRH
variable {p : Program} {l : Launch} {e : Env} {R : Room} {s : State} {m : MethodId} {args : Array Value} {below : List Frame} {meth : Method} {c : Code} {H : Heap} {locs : List Loc} {cells slots : Nat} {Q : State → Prop}
variable {cc : ByteArray} {pc : Nat} {ls : Array Slot} {rest : List Value} {Z : XZ} {A : Nat → Prop} {u0 u u' : PS} {a : Nat} {i : XI}
theorem xt_catch {own name E : String} {ce : Cell} {q : Addr} {T : State} (hown : s.vm.findClass own = some m.cls) (pre : List ExceptionTableEntry) (x : ExceptionTableEntry) (suf : List ExceptionTableEntry) (hsplit : c.exceptionTable.toList = pre ++ x :: suf)
    (hpass : ∀ z ∈ pre, z.catchType ≠ 0 ∧ ∃ nm : String, (Cond.classLink own z.catchType nm).before args s = true ∧ va_Nc E nm s) (hx : covers x pc = true) (h0 : x.catchType ≠ 0)
    (hlink : (Cond.classLink own x.catchType name).before args s = true) (hcast : (Cond.castable E name).before args s = true) (hcell : H[q]? = some ce) (hv : ce.vm = .none) (hcl : s.vm.findClass E = some ce.cls) (hT : T.heap = H) (X : Stand p l e R s m args below meth c T locs cells slots)
    (kk : W p l e R s m args below meth c H locs cells slots Q (F0 m x.handlerPc ls [.ref q])) : ∃ t, Steps p.tables e below ((T.setTop (F0 m pc ls rest)).pushFrame (.throwing q)) t ∧ Q t := by
  have hpl : e.platform.magicAccessors = ({} : Platform).magicAccessors := by rw [X.admits.platform]
  obtain ⟨c3, c4, hc3, hc4, hasg⟩ := Cond.castable_spec hcast
  cases Option.some.inj (hc3.symm.trans hcl)
  obtain ⟨c5, hc5, hcl5⟩ := Cond.classLink_spec hown hlink e.platform hpl
  cases Option.some.inj (hc4.symm.trans hc5)
  have hp : ∀ z ∈ pre, RowPassed e.platform s m.cls (F0 m pc ls rest).pc ce.cls z := by
    intro z hz
    obtain ⟨hz0, nm, hl1, a8, b8, h1, h2, h3⟩ := hpass z hz
    obtain ⟨c6, hc6, hcl6⟩ := Cond.classLink_spec hown hl1 e.platform hpl
    cases Option.some.inj (h1.symm.trans hcl)
    cases Option.some.inj (h2.symm.trans hc6)
    exact Or.inr ⟨hz0, _, hcl6, h3⟩
  obtain ⟨vm', X', st⟩ := X.thenCaughtThrough q (g := F0 m pc ls rest) rfl (Steps.refl _) (by rw [hT]; exact hcell) (by rw [hv]; rfl) (by obtain ⟨k9, h9, -⟩ := Vm.findClass_spec hcl; exact ⟨k9, h9⟩) pre x suf hsplit hp hx (Or.inr ⟨h0, c4, hcl5, hasg⟩)
  obtain ⟨t, a1, b1⟩ := kk (T.setVm vm') hT X'
  exact ⟨t, st.trans a1, b1⟩
/-- a static call of a method with an exception table -/
theorem xr_cSW {hh : List (Nat × Nat × Nat × Nat)} {u1 : PS} {nL n index : Nat} {Ts : List Cond} {own : String} {ic : XI} {rv : Option Value} {As st0 : List Value} (F : CallFix p m c cc nL s args Ts own) (hw : XW l Z A u0 u s H locs) (hM : XMet l Z ic As u rv u') (hle : x_le u' u1) (hG : GoodIn Ts ic.2.2.2.2.1) (hcw : Cond.codeWith ic.1 ic.2.1 ic.2.2.1 ic.2.2.2.1 hh ∈ ic.2.2.2.2.1)
    (hini : (Cond.initialized ic.1.cls).before args s = true) (hlk : (Cond.methodLink own index ic.1).before args s = true) (hstt : (Cond.static ic.1).before args s = true) (hd : ic.1.cls ≠ "java/lang/invoke/MethodHandle" ∧ ic.1.cls ≠ "java/lang/invoke/VarHandle" ∧ (parseMethodDescriptor ic.1.desc).map (fun d => d.parameters.length) = some n) (hR : ic.2.2.2.2.2.1 + 1 ≤ R.frames ∧ 8 + (ic.2.2.1 + 11) + ic.2.2.2.2.2.2 ≤ R.locals) (hRc : u1.2.1 - u0.2.1 ≤ R.cells ∧ u1.2.2 - u0.2.2 ≤ R.slots)
    (hn : As.length = n) (hl : ls.size = nL) (hst : st0 = As.reverse ++ rest) (hr8 : (rest.map fun v => v.category).sum ≤ 8) (hdg : decode cc pc = .ok (.invokestatic index, 3))
    (kk : ∀ (H1 : Heap) (locs1 : List Loc), XW l Z A u0 u' s H1 locs1 → W p l e R s m args below meth c H1 locs1 (u'.2.1 - u0.2.1) (u'.2.2 - u0.2.2) Q (F0 m (pc + 3) ls (rv.toList ++ rest))) : W p l e R s m args below meth c H locs (u.2.1 - u0.2.1) (u.2.2 - u0.2.2) Q (F0 m pc ls st0) := by
  obtain ⟨g1, g2, g3⟩ := x_cost hw.2.2.2.2.2.2 hM.1 hle
  obtain ⟨hx, hb, hml, ho, hts⟩ := F
  have hws := pay_in hts hG
  have hcode : (Cond.codeWith ic.1 ic.2.1 ic.2.2.1 ic.2.2.2.1 hh).before args s = true := hts _ (hG _ hcw).1
  have hK : Back l R p e below s args ic.1 3 8 (PreOf R (u'.2.1 - u.2.1) (u'.2.2 - u.2.2) (va_Pc As (XP l Z u))) (PostOf (XQ Z (xA u) rv u') (u'.2.1 - u.2.1) (u'.2.2 - u.2.2) (xA u)) :=
    va_backW (hh := hh) (bytes := ic.2.1) (maxL := ic.2.2.1) (ret := ic.2.2.2.1) hM.2 XP.blind rfl rfl hR.1 hR.2 hws hcw (fun a' U hW => word_at hW (Or.inl (by first | rfl | simp [Cond.onTables, Cond.keeps, Cond.steady])) hini)
  refine xr_back hw hM.1 (rest := rest) (a9 := As.toArray) (mc := u'.2.1 - u.2.1) (ms := u'.2.2 - u.2.2) ?_ (fun H1 locs1 hw1 => by rw [g2, g3]; exact kk H1 locs1 hw1)
  intro T hT X
  obtain ⟨mk, methM, cM, hnamed, hmethM, -, -, -, -, -, -, hsigM⟩ := Cond.codeWith_spec hcode
  have hstatic : methM.isStatic = true := Cond.static_spec hnamed hmethM hstt
  obtain ⟨kP, hkP, -⟩ := className_of_methodNamed hnamed
  have hinitP : kP.init = .initialized := Cond.initialized_spec (findClass_of_methodNamed hnamed) hkP hini
  have hlen : As.length = methM.sig.parameters.length := by
    have h2 := hd.2.2
    rw [hsigM] at h2
    exact hn.trans (Option.some.inj h2).symm
  obtain ⟨vm₁, X₁, hstep₁⟩ := X.invokestatic hx ho hlk hnamed hmethM hstatic hkP hinitP ⟨hd.1, hd.2.1⟩ (g := F0 m pc ls st0) rfl (argsL := As) (rest := rest) hlen hst (by rw [hb]; exact hdg)
  obtain ⟨v, B, X', hpost, hsteps⟩ := hK m meth c ⟨T.setVm vm₁, locs, _, _⟩ { F0 m pc ls st0 with stack := rest } (.invokestatic index) mk As.toArray X₁ rfl (hl.trans hml.symm) (by rw [hb]; exact hdg) (lv_room hr8) (X₁.named hnamed) ⟨Nat.le_trans g1.1 hRc.1, Nat.le_trans g1.2 hRc.2, rfl, xr_pre hw hT X₁.warmed⟩
  obtain ⟨U', l2, c2, s2⟩ := B
  obtain ⟨g', mk', t, L, e1, e2, hq, h1, hL, h2, h3⟩ := hpost
  dsimp only [Pt.U, Pt.locs, Pt.cells, Pt.slots] at X' e1 e2 h1 h2 h3 hsteps
  subst h1; subst h2; subst h3
  exact ⟨v, (T.setVm vm₁).calling g' mk' As.toArray, t, U', L, hT, X', hL, e1, e2, hq, fun target h => hstep₁ _ fun acts => by rw [doInvoke_state]; exact hsteps.trans h⟩
end XRH
