/-! throw new E("text") -/
theorem xt_old {s t : State} {k n : Nat} (h : s.sameButNew t [] k n) {q : Nat} (hq : q < s.heap.size) : t.heap[q]? = s.heap[q]? := by
  obtain ⟨-, -, -, -, -, h6⟩ := h
  obtain ⟨c', h1, h2, h3, h4⟩ := h6 q s.heap[q] (Array.getElem?_eq_getElem hq)
  have h5 : c'.slots = (s.heap[q]).slots := Array.ext_getElem? (fun i => h4 i (fun z => nomatch z))
  have h7 : c' = s.heap[q] := by
    rw [h5] at h2
    exact h2
  rw [h1, Array.getElem?_eq_getElem hq, h7]
/-- words on a static that hold where the old cells are the same -/
theorem xt_lays {s0 U : State} (hvm : s0.vm.Alike U.vm) (hq : ∀ q : Nat, q < s0.heap.size → U.heap[q]? = s0.heap[q]?) {C n d : String} {a0 a1 : Array Value} (h : (Cond.laysStatic C n d).before a0 s0 = true) : (Cond.laysStatic C n d).before a1 U = true := by
  obtain ⟨c, k, i, f, a, cell, h1, h2, h3, h4, h5, h6, h7, h8, h9⟩ := Cond.laysStatic_spec h
  obtain ⟨k', hi', he⟩ := State.fieldFound?_setVm hvm h2
  show (Cond.laysStatic C n d).holds a1 U none U [] = true
  exact Cond.laysStatic_of (by rw [hvm.findClass]; exact h1) hi' h3 (by rw [he]; exact h4) (by rw [hq a (Array.getElem?_eq_some_iff.mp h5).1]; exact h5) h6 h7 h8 (by rw [he]; exact h9)
theorem xt_isref {s0 U : State} (hvm : s0.vm.Alike U.vm) (hq : ∀ q : Nat, q < s0.heap.size → U.heap[q]? = s0.heap[q]?) {C n d : String} {a0 a1 : Array Value} (hl : (Cond.laysStatic C n d).before a0 s0 = true) (hini : (Cond.initialized C).before a0 s0 = true) (h : (Cond.isRef (.static C n d)).before a0 s0 = true) : (Cond.isRef (.static C n d)).before a1 U = true := by
  have hz : va_Zq C n d (fun q => s0.heap.size ≤ q) U U.heap := va_Zq.kept (va_Zq.moved hvm (va_Zqof hl hini h (fun a ha hn => Nat.not_le_of_lt ha hn))) (fun a ha _ => hq a ha)
  have go : ∀ v : Value, v.isRef = true → va_Z C n d v (fun q => s0.heap.size ≤ q) U U.heap → (Cond.isRef (.static C n d)).before a1 U = true := by
    intro v hv hz
    obtain ⟨cf, kf, fi, f, a, cell, h1, h2, h3, h4, h5, h6, h7, -⟩ := hz
    have he : (Term.static C n d).eval a1 U none [] U = some v := by
      simp [Term.eval, State.fieldNamed?, h1, h2, h4, h5, h6, h7]
    simp only [Cond.before, Cond.holds, Cond.value, he]
    cases v <;> simp_all [Value.isRef]
  rcases hz with hz | ⟨t, hz⟩
  · exact go _ rfl hz
  · exact go _ rfl hz
/-- the same frame, as if the method had begun in this heap -/
theorem xt_base {p : Program} {l : Launch} {e : Env} {R R' : Room} {s T : State} {m : MethodId} {args : Array Value} {below : List Frame} {meth : Method} {c : Code} {locs : List Loc} {cells slots : Nat} (X : Stand p l e R s m args below meth c T locs cells slots) (hf : R'.frames ≤ R.frames) (hl : R'.locals ≤ R.locals) (hc : cells + R'.cells ≤ R.cells) (hs : slots + R'.slots ≤ R.slots) :
    Stand p l e R' ((T.setVm s.vm).setFrames (.invoking m args :: below)) m args below meth c T [] 0 0 := by
  have htop : (T.setVm s.vm).topJava?.isSome := X.here.top
  have hF : ((T.setVm s.vm).setFrames (.invoking m args :: below)).frames = .invoking m args :: below := State.frames_setFrames _ (State.cur_lt_of_top htop)
  obtain ⟨g₀, hg0⟩ := Option.isSome_iff_exists.mp htop
  obtain ⟨r, hr⟩ := State.topJava?_eq_some.mp hg0
  have hl9 : e.platform.stackLimits (T.setVm s.vm).me = e.platform.stackLimits s.me := X.limits
  have hb9 : (T.setVm s.vm).me.stackBytes = s.me.stackBytes := X.bytes
  have hU : ((T.setVm s.vm).setFrames (.invoking m args :: below)).localsInUse = s.localsInUse := by
    rw [State.localsInUse_invoking hF (meth := meth) (c := c) X.method X.code, State.localsInUse_invoking X.frames X.method X.code]
  have q1 := X.heapSize
  have q2 := X.used
  refine ⟨X.admits, X.cas, X.clock, hF, ?_, X.hears, X.method, X.code, X.here, X.tail, X.warmed, by rw [State.stackLimits_setFrames]; rfl, by rw [State.stackBytes_setFrames]; rfl, ?_, Nat.le_refl _, Nat.le_refl _, ?_, ?_, fun a c9 h9 => ⟨c9, h9, rfl, rfl, fun _ _ => rfl⟩⟩
  · have h := X.room
    simp only [State.hasRoom, Bool.and_eq_true, decide_eq_true_eq] at h ⊢
    obtain ⟨⟨⟨⟨h1, h2, h3, h4, h5, h6⟩, h7⟩, h8⟩, h9⟩ := h
    rw [X.frames, List.length_cons] at h2 h3
    simp only [hF, hU, List.length_cons, State.stackLimits_setFrames, State.stackBytes_setFrames, hl9, hb9]
    refine ⟨⟨⟨⟨by omega, by omega, by omega, by omega, by omega, h6⟩, ?_⟩, ?_⟩, X.book⟩
    · show T.heap.size + R'.cells ≤ e.platform.maxCells
      omega
    · show T.slotsUsed + R'.slots ≤ e.platform.maxSlots
      omega
  · obtain ⟨t, ht, -⟩ := State.frames_cons hr
    show T.setVm s.vm = { ((T.setVm s.vm).setFrames (.invoking m args :: below)).setFrames (T.setVm s.vm).frames with heap := T.heap, slotsUsed := T.slotsUsed }
    rw [State.setFrames_setFrames, State.setFrames_self ht]
    rfl
  · show T.slotsUsed = T.slotsUsed + ((T.heap.toList.drop T.heap.size).map (·.slots.size)).sum
    rw [List.drop_eq_nil_of_le (Nat.le_of_eq Array.length_toList)]
    rfl
  · show ((T.heap.toList.drop T.heap.size).map (·.slots.size)).sum ≤ 0
    rw [List.drop_eq_nil_of_le (Nat.le_of_eq Array.length_toList)]
    exact Nat.le_refl _
/-- the words that an exception's making needs: those of the tables, and four on Throwable's own statics -/
def xt_four : List Cond := [.laysStatic Bundle.tN "UNASSIGNED_STACK" Bundle.steD, .laysStatic Bundle.tN "SUPPRESSED_SENTINEL" Bundle.listD, .isRef (.static Bundle.tN "UNASSIGNED_STACK" Bundle.steD), .isRef (.static Bundle.tN "SUPPRESSED_SENTINEL" Bundle.listD), .castable "java/lang/IndexOutOfBoundsException" "java/lang/IndexOutOfBoundsException", .castable "java/lang/IllegalArgumentException" "java/lang/IllegalArgumentException", .declares (⟨"java/lang/RuntimeException", "<init>", "(Ljava/lang/String;)V"⟩ : MethodName), .declares (⟨"java/lang/Exception", "<init>", "(Ljava/lang/String;)V"⟩ : MethodName), .declares (⟨"java/lang/Throwable", "<init>", "(Ljava/lang/String;)V"⟩ : MethodName)]
theorem xt_four_at {l : Launch} {Z : XZ} {A : Nat → Prop} {U : State} (h : XG l Z A U U.heap) (args : Array Value) : ∀ w ∈ xt_four, w.before args U = true := by
  obtain ⟨b, hb, hn⟩ := h.1.2.1
  have hq : ∀ q : Nat, q < Z.2.2.2.heap.size → U.heap[q]? = Z.2.2.2.heap[q]? := fun q q1 => (h.2.2 q q1).2
  have hvm := h.2.1.alike
  have l1 : (Cond.laysStatic Bundle.tN "UNASSIGNED_STACK" Bundle.steD).before #[Value.ref b] Z.2.2.2 = true := hb _ (List.mem_append_right _ (List.mem_of_getElem? (i := 546) (by decide +kernel)))
  have l2 : (Cond.laysStatic Bundle.tN "SUPPRESSED_SENTINEL" Bundle.listD).before #[Value.ref b] Z.2.2.2 = true := hb _ (List.mem_append_right _ (List.mem_of_getElem? (i := 548) (by decide +kernel)))
  have hi : (Cond.initialized Bundle.tN).before #[Value.ref b] Z.2.2.2 = true := hb _ (List.mem_append_right _ (List.mem_of_getElem? (i := 9) (by decide +kernel)))
  have r1 : (Cond.isRef (.static Bundle.tN "UNASSIGNED_STACK" Bundle.steD)).before #[Value.ref b] Z.2.2.2 = true := flat_of_before _ hn _ (by decide +kernel)
  have r2 : (Cond.isRef (.static Bundle.tN "SUPPRESSED_SENTINEL" Bundle.listD)).before #[Value.ref b] Z.2.2.2 = true := flat_of_before _ hn _ (by decide +kernel)
  intro w hw
  simp only [xt_four, List.mem_cons, List.not_mem_nil, or_false] at hw
  rcases hw with rfl | rfl | rfl | rfl | rfl | rfl | rfl | rfl | rfl
  · exact xt_lays hvm hq l1
  · exact xt_lays hvm hq l2
  · exact xt_isref hvm hq l1 hi r1
  · exact xt_isref hvm hq l2 hi r2
  · exact va_Nw.warmC h.2.1 (hb (.castable "java/lang/IndexOutOfBoundsException" "java/lang/IndexOutOfBoundsException") (List.mem_append_right _ (List.mem_of_getElem? (i := 521) (by decide +kernel))))
  · exact va_Nw.warmC h.2.1 (hb (.castable "java/lang/IllegalArgumentException" "java/lang/IllegalArgumentException") (List.mem_append_right _ (List.mem_of_getElem? (i := 591) (by decide +kernel))))
  · exact va_Nw.warmD h.2.1 (hb (.declares (⟨"java/lang/RuntimeException", "<init>", "(Ljava/lang/String;)V"⟩ : MethodName)) (List.mem_append_right _ (List.mem_of_getElem? (i := 523) (by decide +kernel))))
  · exact va_Nw.warmD h.2.1 (hb (.declares (⟨"java/lang/Exception", "<init>", "(Ljava/lang/String;)V"⟩ : MethodName)) (List.mem_append_right _ (List.mem_of_getElem? (i := 525) (by decide +kernel))))
  · exact va_Nw.warmD h.2.1 (hb (.declares (⟨"java/lang/Throwable", "<init>", "(Ljava/lang/String;)V"⟩ : MethodName)) (List.mem_append_right _ (List.mem_of_getElem? (i := 527) (by decide +kernel))))
/-- a text of the class, by its entry -/
theorem xt_text {l : Launch} {Z : XZ} {A : Nat → Prop} {U : State} {H : Heap} (h : XG l Z A U H) {own tx : String} {k : Nat} (h1 : Cond.stringRef own k tx ∈ tables_1) (h2 : Cond.exactly (.string own k) "java/lang/String" ∈ flatC (Jvm.Cond.and given_1 narrow_1)) : ∃ sa : Nat, vk_R own k tx sa U := by
  obtain ⟨b, hb, hn⟩ := h.1.2.1
  obtain ⟨sa, hsa⟩ : ∃ sa : Nat, (Term.string own k).eval #[Value.ref b] Z.2.2.2 none [] Z.2.2.2 = some (.ref sa) := by
    have h3 := flat_of_before _ hn _ h2
    obtain ⟨a, _, _, _, ha, -⟩ := Cond.exactly_spec h3
    exact ⟨a, ha⟩
  exact ⟨sa, vk_R.warm h.2.1 (vk_R.of (hb _ (List.mem_append_right _ h1)) hsa)⟩
set_option maxHeartbeats 1000000 in
theorem xt_throw {p : Program} {l : Launch} {e : Env} {s : State} {m : MethodId} {args : Array Value} {below : List Frame} {meth : Method} {c : Code} {H : Heap} {locs : List Loc} {pc : Nat} {ls : Array Slot} {rest : List Value} {Z : XZ} {A : Nat → Prop} {u0 u : PS} {i : XI} (F : XF p s m args meth c i) (hno : ∀ x ∈ c.exceptionTable.toList, False) (hw : XW l Z A u0 u s H locs)
    {cls text : String} {names : List String} {ik is ic sa : Nat} (hcls : Bundle.fit cls = true) (hnames : ∀ n ∈ names, Bundle.fit n = true) (hk : (Cond.classLink i.1.cls ik cls).before args s = true) (hini : (Cond.initialized cls).before args s = true) (hgk : goodWord (Cond.classLink i.1.cls ik cls) = true) (hgi : goodWord (Cond.initialized cls) = true)
    (hstr : vk_R i.1.cls is text sa s) (hat : ∀ w ∈ Bundle.ownAtoms i.1.cls ic cls names, (w.before args s = true ∧ goodWord w = true) ∨ w ∈ xt_four) (hsize : ls.size = c.maxLocals)
    (d0 : decode i.2.1 pc = .ok (.new ik, 3)) (d3 : decode i.2.1 (pc + 3) = .ok (.dup, 1)) (d4 : decode i.2.1 (pc + 4) = .ok (.ldc is, 2)) (d6 : decode i.2.1 (pc + 6) = .ok (.invokespecial ic, 3)) (d9 : decode i.2.1 (pc + 9) = .ok (.athrow, 1))
    (hfr : names.length + 3 < i.2.2.2.2.2.1) (hlo : (rest.map fun v => v.category).sum + (13 * (names.length + 1) + 43) ≤ i.2.2.2.2.2.2) :
    W p l e (xR i u0 (x_th u)) s m args below meth c H locs (u.2.1 - u0.2.1) (u.2.2 - u0.2.2) (MT below Z A cls (x_th u) s ((x_th u).2.1 - u0.2.1) ((x_th u).2.2 - u0.2.2)) (F0 m pc ls rest) := by
  obtain ⟨⟨hx, hb, hml, hown, -⟩, -, hlocks, -⟩ := F
  have hle0 := hw.2.2.2.2.2.2
  have r1 : u.2.1 - u0.2.1 + 1 = (x_th u).2.1 - u0.2.1 := by
    have := hle0.1
    show _ = u.2.1 + 1 - u0.2.1
    omega
  have r2 : u.2.2 - u0.2.2 + 6 = (x_th u).2.2 - u0.2.2 := by
    have := hle0.2
    show _ = u.2.2 + 6 - u0.2.2
    omega
  intro T hT X
  have htr : e.platform.stackTraces = false := (show e.platform.stackTraces = l.stackTraces by rw [X.admits.platform]).trans hw.2.2.2.2.2.1.1.1
  have Y := xt_base X (R' := { frames := i.2.2.2.2.2.1, locals := i.2.2.2.2.2.2, cells := 1, slots := 6 }) (Nat.le_refl _) (Nat.le_refl _) (Nat.le_of_eq r1) (Nat.le_of_eq r2)
  obtain ⟨s', hA'⟩ : ∃ z, z = (T.setVm s.vm).setFrames (.invoking m args :: below) := ⟨_, rfl⟩
  rw [← hA'] at Y
  have hvm : s'.vm = s.vm := by rw [hA']; rfl
  have hhp : s'.heap = H := by rw [hA']; exact hT
  have hW0 : s.WarmedH s'.vm := by rw [hvm]; exact State.WarmedH.refl s
  have good : ∀ w : Cond, goodWord w = true → w.before args s = true → w.before args s' = true := fun w g h => word_at hW0 (good_of_word g) h
  have hG' : XG l Z A s' s'.heap := by
    rw [hhp]
    exact XG.moved hW0 (hw.2.2.2.2.2.1.kept (fun a h1 h2 => hw.2.2.2.1.2.1 a h1 h2))
  have h : ∀ w ∈ Bundle.ownAtoms i.1.cls ic cls names, w.before args s' = true := by
    intro w hw9
    rcases hat w hw9 with ⟨h1, h2⟩ | h1
    · exact good w h2 h1
    · exact xt_four_at hG' args w h1
  have hown' : s'.vm.findClass i.1.cls = some m.cls := by rw [hvm]; exact hown
  have hins : (Cond.instantiable cls 6).before args s' = true := h _ (by simp [Bundle.ownAtoms])
  obtain ⟨vm₁, cX, kX, hfX, hkX, -, -, X₁, st1⟩ := Y.newCold hx (own := i.1.cls) (C := cls) (index := ik) (n := 6) hown' (good _ hgk hk) hins (good _ hgi hini)
    (g := F0 m pc ls rest) rfl (by rw [hb]; exact d0) (Nat.le_refl _) (Nat.le_refl _)
  generalize hT1 : (T.setVm vm₁).pushCell { cls := cX, slots := kX.instanceTypes.map defaultValue, vm := .none } = T1 at X₁ st1
  have hcat : (Value.ref T.heap.size).category = 1 := rfl
  have hcellA : T1.heap[T.heap.size]? = some (freshCell cX kX) := by rw [← hT1]; exact State.heap_pushCell_size _ _
  have d3' : decode c.code (pc + 3) = .ok (.dup, 1) := by rw [hb]; exact d3
  have d4' : decode c.code (pc + 4) = .ok (.ldc is, 2) := by rw [hb]; exact d4
  have hstr' : vk_R i.1.cls is text sa s' := vk_R.warm hW0 hstr
  obtain ⟨U, hsteps, hrun, hend, hW, hsame, ce, hce, hO⟩ := X₁.ctorThrowS hx htr (own := i.1.cls) (cls := cls) (names := names) (ic := ic) hown' hcls hnames h (fun x hx => nomatch hx) hfX hkX hcellA (by rw [hhp, hT]; exact Nat.le_refl _) (msg := .ref sa) rfl
    (g := { method := m, pc := pc + 6, locals := ls, stack := .ref sa :: .ref T.heap.size :: .ref T.heap.size :: rest, locked := none }) rfl hsize rfl rfl (rest := rest) rfl
    (by rw [hb]; exact d6) (by rw [hb]; exact d9) (fun x hx => (hno x hx).elim) hfr (by simp only [List.map_cons, List.sum_cons, hcat]; show 2 * 0 + _ + _ ≤ i.2.2.2.2.2.2; omega) hlocks
  have hold : ∀ q : Nat, q < H.size → U.heap[q]? = H[q]? := fun q hq => by
    have := xt_old hsame (q := q) (by rw [hhp]; exact hq)
    rw [hhp] at this
    exact this
  have hsz : U.heap.size = H.size + 1 := by
    have h1 := hsame.2.2.1
    have h2 := (Array.getElem?_eq_some_iff.mp hce).1
    rw [hhp] at h1
    rw [hT] at h2
    have h3 : U.heap.size ≤ H.size + (0 + 1) := h1
    omega
  obtain ⟨hK, hM, hA, hS, hA2, hG, hle⟩ := hw
  have hall : s.sameButNew ({ U with vm := s.vm } : State) locs ((x_th u).2.1 - u0.2.1) ((x_th u).2.2 - u0.2.2) := by
    subst hA'
    obtain ⟨e1, e2⟩ := hsame
    rw [State.setFrames_setFrames] at e1
    have h2 : (T.setVm s.vm).sameButNew ({ U with vm := s.vm } : State) [] (0 + 1) (0 + 6) := ⟨e1, e2⟩
    have h3 := X.same.trans h2
    rw [List.append_nil] at h3
    exact h3.mono (Nat.le_of_eq r1) (Nat.le_of_eq r2)
  have hWs : s.WarmedH U.vm := State.WarmedH.trans hW0 hW
  have hcl : s.vm.findClass cls = some ce.cls := by
    have h9 := hO.cls
    rw [hvm] at h9
    exact h9
  refine ⟨U, st1 _ ?_, T.heap.size, hrun, hend, ⟨fun b f hb9 => (hM.1 b f hb9).kept (hold b (hM.1 b f hb9).lt), by rw [hsz, hM.2]; rfl⟩, hA, ⟨by have := hS.1; omega, fun q q1 q2 => by rw [hold q (Nat.lt_of_lt_of_le q1 hS.1)]; exact hS.2.1 q q1 q2⟩, ce, locs, hce, hO.vm, hcl, hWs, hall, hS.2.2⟩
  show Steps p.tables e below (T1.setTop { method := m, pc := pc + 3, locals := ls, stack := .ref T.heap.size :: rest, locked := none }) _
  jvm_step X₁.here [X₁.here.top, hx, d3', Value.category]
  exact X₁.ldcString hx (own := i.1.cls) (text := text) (index := is) (a := sa) hown' hstr'.1 hstr'.2
    (g := { method := m, pc := pc + 4, locals := ls, stack := .ref T.heap.size :: .ref T.heap.size :: rest, locked := none }) rfl d4' _ hsteps
