def R_law : String := "DiagramHouseLaw"
def lw_P (b : Addr) (xs : List Int32) (args : Array Value) (s : State) : Prop := args = #[.ref b] ∧ s.IntsAt b xs ∧ xs.length ≤ 2560 ∧ (Jvm.Cond.and given_1 narrow_1).before args s = true
def lw_Q (_ : Array Value) (s : State) (o : Outcome) (t : State) : Prop := o = .returned (some (.int 1)) ∧ Framed s o t [] 601024 7293034
/-- less room -/
theorem x_shrink {p : Program} {l : Launch} {e : Env} {R R' : Room} {s T : State} {m : MethodId} {args : Array Value} {below : List Frame} {meth : Method} {c : Code} {locs : List Loc} {cells slots : Nat} (X : Stand p l e R s m args below meth c T locs cells slots) (hf : R'.frames ≤ R.frames) (hl : R'.locals ≤ R.locals) (hc : R'.cells ≤ R.cells) (hs : R'.slots ≤ R.slots) : Stand p l e R' s m args below meth c T locs cells slots := by
  have hr : s.hasRoom e.platform R' = true := by
    have h := X.room
    simp only [State.hasRoom, Bool.and_eq_true, decide_eq_true_eq] at h ⊢
    obtain ⟨⟨⟨⟨h1, h2, h3, h4, h5, h6⟩, h7⟩, h8⟩, h9⟩ := h
    exact ⟨⟨⟨⟨by omega, by omega, by omega, by omega, by omega, h6⟩, by omega⟩, by omega⟩, h9⟩
  exact { X with room := hr }
/-- what was written is new: nothing that was there before has changed -/
theorem x_forget {s t : State} {L : List Loc} {k n : Nat} (h : s.sameButNew t L k n) (hL : ∀ q ∈ L, s.heap.size ≤ q.base) : s.sameButNew t [] k n := by
  obtain ⟨h1, h2, h3, h4, h5, h6⟩ := h
  refine ⟨h1, h2, h3, h4, h5, fun a c hc => ?_⟩
  obtain ⟨c', q1, q2, q3, q4⟩ := h6 a c hc
  refine ⟨c', q1, q2, q3, fun i _ => q4 i (fun hm => ?_)⟩
  have := hL _ hm
  have h7 := (Array.getElem?_eq_some_iff.mp hc).1
  have h8 : s.heap.size ≤ a := this
  omega
theorem x_arr {s : State} {args : Array Value} {t : FieldType} (h : (Cond.arrayClass t).before args s = true) (ho : ∀ C, t ≠ .object C) : ∃ c : ClassId, ArrOfT s c t ∧ va_RA s c t := by
  obtain ⟨c, k, comp, h1, h2, h3⟩ := Cond.arrayClass_spec h
  refine ⟨c, fun N z => ⟨(fun q hq => by cases hq), k, h2, comp, h3⟩, ?_⟩
  cases t <;> first | exact h1 | exact absurd rfl (ho _)
theorem x_arr2 {s : State} {args : Array Value} {t : FieldType} (h : (Cond.arrayOver (.array t)).before args s = true) : ∃ c : ClassId, ArrOfT s c (.array t) ∧ va_RA s c (.array t) := by
  obtain ⟨comp, c, k, h1, h2, h3, h4, h5⟩ := arrayOverA_spec h
  exact ⟨c, fun N z => ⟨(fun q hq => by cases hq), k, h3, comp, h4⟩, h5⟩
/-- at the law's start: the classes, the arrays' classes, the table -/
theorem x_start {l : Launch} (hl : l.stackTraces = false) {s : State} {b : Addr} (hts : ∀ w ∈ lw_tbl, w.before #[Value.ref b] s = true) (hgv : (Jvm.Cond.and given_1 narrow_1).before #[Value.ref b] s = true) : ∃ Z : XZ, Z.2.2.2 = s ∧ va_K Z.1 vwCl (x_T Z.2.1) s ∧ X0 l Z := by
  have hx : ∀ w ∈ xT, w.before #[Value.ref b] s = true := fun w h => hts w (List.mem_filter.mp h).1
  obtain ⟨c0, iS0, hKn0⟩ := u_known (C := R_D) (T := F_D) (N := 13) (n := 13) hx uws_D (hx _ w_53)
  obtain ⟨c1, iS1, hKn1⟩ := u_known (C := R_G) (T := F_G) (N := 10) (n := 10) hx uws_G (hx _ w_118)
  obtain ⟨c2, iS2, hKn2⟩ := u_known (C := R_F) (T := F_F) (N := 5) (n := 5) hx uws_F (hx _ w_26)
  obtain ⟨c3, iS3, hKn3⟩ := u_known (C := R_N) (T := F_N) (N := 13) (n := 13) hx uws_N (hx _ w_59)
  obtain ⟨c4, iS4, hKn4⟩ := u_known (C := R_T) (T := F_T) (N := 10) (n := 10) hx uws_T (hx _ w_155)
  obtain ⟨c5, iS5, hKn5⟩ := u_known (C := R_H) (T := F_H) (N := 2) (n := 2) hx uws_H (hx _ w_18)
  obtain ⟨c6, iS6, hKn6⟩ := u_known (C := R_M) (T := F_M) (N := 14) (n := 14) hx uws_M (hx _ w_862)
  obtain ⟨dC, dI, hKc⟩ : ∃ (dC : Nat → ClassId) (dI : Nat → Nat → Nat), ∀ (k : Nat) (q : vw_C), vwCl[k]? = some q → u_Kn s q.1 q.2.1 q.2.2 (dC k) (dI k) := by
    refine ⟨fun k => match k with | 0 => c0 | 1 => c1 | 2 => c2 | 3 => c3 | 4 => c4 | 5 => c5 | _ => c6, fun k => match k with | 0 => iS0 | 1 => iS1 | 2 => iS2 | 3 => iS3 | 4 => iS4 | 5 => iS5 | _ => iS6, ?_⟩
    intro k q hq
    match k, hq with
    | 0, hq => cases hq; exact hKn0
    | 1, hq => cases hq; exact hKn1
    | 2, hq => cases hq; exact hKn2
    | 3, hq => cases hq; exact hKn3
    | 4, hq => cases hq; exact hKn4
    | 5, hq => cases hq; exact hKn5
    | 6, hq => cases hq; exact hKn6
    | k + 7, hq => simp [vwCl] at hq
  obtain ⟨a0, ha0⟩ := x_arr (t := .int) (hx _ w_51) (fun C h => by cases h)
  obtain ⟨a1, ha1⟩ := x_arr (t := .long) (hx _ w_50) (fun C h => by cases h)
  obtain ⟨a4, ha4⟩ := x_arr (t := .boolean) (hx _ w_911) (fun C h => by cases h)
  obtain ⟨a2, ha2⟩ := x_arr2 (hts _ wo_I)
  obtain ⟨a3, ha3⟩ := x_arr2 (hts _ wo_J)
  have hq := flat_of_before _ hgv
  obtain ⟨t, ht, hT⟩ := va_Tof (tm := .static "DiagramHouse$Functions" "ONES" "[J") (ty := .long) (N := 6) (f := fun j => .long (tab_ONES j)) (A := fun q => s.heap.size ≤ q) (by decide) (hq _ (by decide +kernel)) (va_eqt (hq (.eq (.length (.static "DiagramHouse$Functions" "ONES" "[J")) (.int 6)) (by decide +kernel)))
    (fun j hj => by
      have hj6 : j = 0 ∨ j = 1 ∨ j = 2 ∨ j = 3 ∨ j = 4 ∨ j = 5 := by omega
      rcases hj6 with rfl | rfl | rfl | rfl | rfl | rfl
      · exact va_eqtl (hq (.eq (.elem (.static "DiagramHouse$Functions" "ONES" "[J") (.int 0)) (.long (-6148914691236517206))) (by decide +kernel))
      · exact va_eqtl (hq (.eq (.elem (.static "DiagramHouse$Functions" "ONES" "[J") (.int 1)) (.long (-3689348814741910324))) (by decide +kernel))
      · exact va_eqtl (hq (.eq (.elem (.static "DiagramHouse$Functions" "ONES" "[J") (.int 2)) (.long (-1085102592571150096))) (by decide +kernel))
      · exact va_eqtl (hq (.eq (.elem (.static "DiagramHouse$Functions" "ONES" "[J") (.int 3)) (.long (-71777214294589696))) (by decide +kernel))
      · exact va_eqtl (hq (.eq (.elem (.static "DiagramHouse$Functions" "ONES" "[J") (.int 4)) (.long (-281470681808896))) (by decide +kernel))
      · exact va_eqtl (hq (.eq (.elem (.static "DiagramHouse$Functions" "ONES" "[J") (.int 5)) (.long (-4294967296))) (by decide +kernel)))
    (fun a ha hn => Nat.not_le_of_lt ha hn)
  have hZ := va_Zof (C := "DiagramHouse$Functions") (n := "ONES") (d := "[J") (A := fun q => s.heap.size ≤ q) (hts _ (List.mem_append_right _ (List.mem_of_getElem? (i := 272) (by decide +kernel)))) (hx _ w_2) ht (fun a ha hn => Nat.not_le_of_lt ha hn)
  refine ⟨((dC, dI), (fun k => match k with | 0 => a0 | 1 => a1 | 2 => a2 | 3 => a3 | _ => a4), fun _ => t, s), rfl, ⟨hKc, fun k q hk => ?_⟩, hl, ⟨b, hts, hgv⟩, hZ, hT⟩
  match k, hk with
  | 0, hk => cases hk; exact ha0
  | 1, hk => cases hk; exact ha1
  | 2, hk => cases hk; exact ha2
  | 3, hk => cases hk; exact ha3
  | 4, hk => cases hk; exact ha4
  | k + 5, hk => simp [x_T] at hk
/-- the law's pure walk, for every script -/
theorem p_ok (sL : Nat) (xs : Nat → Int32) (hL : sL ≤ 2560) (b sz : Nat) : p_L_law sL xs b (fun _ => none, sz, 0) (fun r u1 => r = 1 ∧ u1.2.1 ≤ sz + 601024 ∧ u1.2.2 ≤ 7293034) := lw_pure sL xs hL b sz
set_option maxHeartbeats 4000000 in
theorem lw_walk (l : Launch) (hlt : l.stackTraces = false) (b : Addr) (xs : List Int32) : MetFree l x (headSpec (Jvm.Cond.code x code maxLocals ret :: tables_1) room_1) (lw_P b xs) (fun _ _ _ _ _ => True) lw_Q := by
  refine MetFree.of_bodyS (code := code) (maxLocals := maxLocals) (ret := ret) (by decide) ?_ ?_
  · intro args s m h hn
    obtain ⟨meth, c, h1, h2, h3, h4, h5, h6, -, -⟩ := Cond.code_spec hn (atoms_spec (ws := Jvm.Cond.code x code maxLocals ret :: tables_1) h _ List.mem_cons_self)
    exact ⟨meth, c, h1, h2, h3, h4, h5, h6⟩
  · intro p e s m args below meth c s₁ B hml0 hP _
    obtain ⟨rfl, hxx, hbd, hgv⟩ := hP
    obtain ⟨scr, harrAt, hlist, hof, hsmall⟩ := hxx
    obtain ⟨hcb, hkn, -, -⟩ := State.arrayAt?_spec harrAt
    have hown : s.vm.findClass R_law = some m.cls := findClass_of_methodNamed B.named
    have hts0 : ∀ c ∈ (Jvm.Cond.code x code maxLocals ret :: tables_1), c.before #[Value.ref b] s = true := atoms_spec (ws := Jvm.Cond.code x code maxLocals ret :: tables_1) B.pre
    have hts : ∀ w ∈ lw_tbl, w.before #[Value.ref b] s = true := k2_hts_sels lw_privs (fun w hw => hts0 w (List.mem_cons_of_mem _ hw)) lw_privs_ok
    have hml : c.maxLocals = 7 := B.maxLocals_eq (hts0 _ List.mem_cons_self)
    have X₀ : Stand p l e room_1 s m #[Value.ref b] below meth c s₁ [] 0 0 := Stand.of_body B
    have hh0 : s₁.heap = s.heap := by rw [B.state]; rfl
    have hsz : scr.slots.size = xs.length := by rw [← Array.length_toList, hlist, List.length_map]
    have hval : ∀ j : Nat, j < xs.length → scr.slots[j]? = some (.int (xs.getD j 0)) := fun j hj => by
      rw [← Array.getElem?_toList, hlist]
      simp [hj]
    have hbl : b < s.heap.size := (Array.getElem?_eq_some_iff.mp hcb).1
    have hX : va_X b xs.length (fun j => xs.getD j 0) s s.heap := ⟨scr, hcb, hof, hkn, hsz, hval⟩
    obtain ⟨Z, hZs, hK, h0⟩ := x_start hlt hts hgv
    obtain ⟨rv, u1, ⟨r, rfl, rfl, hc1, hs1⟩, hle, w⟩ := c_L_law l Z xs.length (fun j => xs.getD j 0) b ((fun _ => none, s.heap.size, 0) : PS) _ (p_ok xs.length (fun j => xs.getD j 0) hbd b s.heap.size)
    have F : XF p s m #[Value.ref b] meth c i_L_law := ⟨⟨B.exec, B.bytes, hml, hown, fun w hw => by
      rcases List.mem_cons.mp hw with e9 | e9
      · rw [e9]
        exact hts _ (List.mem_append_right _ (List.mem_of_getElem? (i := 0) (by decide +kernel)))
      · exact hts w (List.mem_filter.mp e9).1⟩, B.returns, B.notSynchronized, (name_of_methodNamed B.named B.method).1⟩
    have hw : XW l Z (fun q => s.heap.size ≤ q) ((fun _ => none, s.heap.size, 0) : PS) ((fun _ => none, s.heap.size, 0) : PS) s s.heap [] := by
      refine ⟨hK, ⟨fun a e h => (by cases h), rfl⟩, fun a e h => (by cases h), va_S.rf, fun q h => h, ⟨h0, by rw [hZs]; exact State.WarmedH.refl s, fun q hq => ?_⟩, x_le.rf _⟩
      rw [hZs] at hq ⊢
      exact ⟨Nat.not_le_of_lt hq, rfl⟩
    have hl := lv_entry ([.ref b]) (n := 7) (Nat.le_of_ble_eq_true rfl)
    have w1 := w p e s m #[Value.ref b] below meth c (fun q => s.heap.size ≤ q) s.heap [] _ F ⟨hX, hbl, Nat.not_le_of_lt hbl⟩ hw hl
    rw [Nat.sub_self, Nat.sub_self] at w1
    have e1 : u1.2.1 - ((fun _ => none, s.heap.size, 0) : PS).2.1 ≤ 601024 := by
      show u1.2.1 - s.heap.size ≤ 601024
      omega
    have e2 : u1.2.2 - ((fun _ => none, s.heap.size, 0) : PS).2.2 ≤ 7293034 := by
      show u1.2.2 - 0 ≤ 7293034
      omega
    obtain ⟨t, a1, o, b1, b2, ⟨ho, -, -, -⟩, L, ⟨hv, hW, hsm⟩, hLL⟩ := w1 s₁ hh0 (x_shrink X₀ (Nat.le_of_ble_eq_true rfl) (Nat.le_of_ble_eq_true rfl) e1 e2)
    refine ⟨t, o, ?_, b1, b2, ho, hv, hW, (x_forget hsm hLL).mono e1 e2⟩
    rw [lg_entry_eq]
    exact a1
theorem lw_pre_spec {args : Array Value} {s : State} (h : (Jvm.Cond.and given_1 narrow_1).before args s = true) (hr : rest_1_c.before args s = true) : ∃ (b : Addr) (xs : List Int32), lw_P b xs args s := by
  have hs := flat_of_before _ h
  have hq := flat_of_before _ hr
  have hc : (Cond.count 1).before args s = true := hs _ (by decide +kernel)
  have harr : (Cond.arrayOf (.arg 0) .int).before args s = true := hs _ (by decide +kernel)
  have hle : (Cond.le (.length (.arg 0)) (.int 2560)).before args s = true := hs _ (by decide +kernel)
  have hlen : (Cond.isInt (.length (.arg 0))).before args s = true := hq _ (by decide +kernel)
  have hall : (Cond.all (.arg 0) (.isInt (.elem (.arg 0) (.index 0)))).before args s = true := hq _ (by decide +kernel)
  obtain ⟨b, xs, hb, hx⟩ := State.ints_of_pre rfl harr hlen hall
  have hsm : xs.length < 2 ^ 31 := hx.choose_spec.2.2.2
  have hev : (Term.length (.arg 0)).eval args s none [] s = some (.int xs.length.toInt32) := hx.length_eval hb
  have hv := Cond.le_ints hev (show (Term.int 2560).eval args s none [] s = some (.int 2560) from rfl)
  have hd : xs.length.toInt32 ≤ 2560 := by
    simpa [Cond.before, Cond.holds, hv] using hle
  have hN : xs.length ≤ 2560 := (Int32.ofNat_le_ofNat hsm (by decide)).mp (show Int32.ofNat xs.length ≤ Int32.ofNat 2560 from hd)
  exact ⟨b, xs, Cond.one_arg hc (show args[0]? = some (.ref b) from hb), hx, hN, h⟩
theorem lw_comes (l : Launch) (hl : l.stackTraces = false) : Comes l x (Jvm.Cond.code x code maxLocals ret :: tables_1) room_1 (fun tb e args s => Calls_1 tb e args s ∧ rest_1 tb e args s ∧ Pre_1 tb e args s)
    (fun _ _ args s o t => lw_Q args s o t) := by
  intro p e ha hc hk s m args below hf hfit hheap happ hpre
  obtain ⟨b, xs, hP⟩ := lw_pre_spec hpre.2.2 hpre.2.1
  obtain ⟨k, o, h1, h2, h3, hQ⟩ := lw_walk l hl b xs p e ha hc hk s m args below hf ((Spec.applies_iff_loose hf).mp happ).1 hP trivial
  exact ⟨k, o, h1, h2, h3, hQ⟩
theorem lw_frame {s t : State} {o : Outcome} {args : Array Value} (h : Framed s o t [] 601024 7293034) :
    Framed s o t (fieldLocs frame_1_writes args s ++ arrayLocs frame_1_arrays args s ++ staticLocs frame_1_statics s) 601024 7293034 := h
theorem lw_limb (L : Cond) (hL : ∀ (args : Array Value) (s t : State), L.after args s (.returned (some (.int 1))) t = true) :
    ArmFor flags0 classFile x code maxLocals ret World_1 tables_1 room_1 Calls_1 rest_1 Pre_1
      (fun tb e a s o t => postC L tb e a s o t ∧ Framed s o t (fieldLocs frame_1_writes a s ++ arrayLocs frame_1_arrays a s ++ staticLocs frame_1_statics s) 601024 7293034) := by
  intro l hfl _ _ p e ha hc hk s m args below hf hfit hheap happ hpre
  obtain ⟨k, o, h1, h2, h3, rfl, hF⟩     := lw_comes l (by unfold Launch.stackTraces; rw [hfl]; decide +kernel) p e ha hc hk s m args below hf hfit hheap happ hpre
  exact ⟨k, _, h1, h2, h3, hL args s _, lw_frame hF⟩
theorem i_vc : Claimed_1_1 ∧ Claimed_1_2 := ⟨lw_limb limb_1_1 (fun args s t => by simp [limb_1_1, Cond.after, Cond.holds, Cond.value]), lw_limb limb_1_2 (fun args s t => Cond.after_iff.mpr (by
  first | (rw [show limb_1_2 = Cond.eq .result (.int 1) from rfl, Cond.eq_ints (x := 1) (y := 1) rfl rfl]; simp; done) | (simp [limb_1_2, Cond.value, Term.eval]; done)))⟩
