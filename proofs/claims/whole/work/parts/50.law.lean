abbrev hh_L_constant : List (Nat × Nat × Nat × Nat) := [(0, 6, 9, 13), (0, 6, 12, 15)]
abbrev ws_L_constant : List Cond := Cond.codeWith y_L_constant b_L_constant 4 (some .int) hh_L_constant :: xT
abbrev hh_L_input : List (Nat × Nat × Nat × Nat) := [(0, 6, 9, 13), (0, 6, 12, 15)]
abbrev ws_L_input : List Cond := Cond.codeWith y_L_input b_L_input 4 (some .int) hh_L_input :: xT
abbrev hh_L_make : List (Nat × Nat × Nat × Nat) := [(0, 9, 12, 13), (0, 9, 16, 15)]
abbrev ws_L_make : List Cond := Cond.codeWith y_L_make b_L_make 6 (some .int) hh_L_make :: xT
abbrev hh_L_choose : List (Nat × Nat × Nat × Nat) := [(0, 9, 12, 13)]
abbrev ws_L_choose : List Cond := Cond.codeWith y_L_choose b_L_choose 6 (some .int) hh_L_choose :: xT
abbrev hh_L_fix : List (Nat × Nat × Nat × Nat) := [(0, 9, 12, 13), (0, 9, 16, 15)]
abbrev ws_L_fix : List Cond := Cond.codeWith y_L_fix b_L_fix 6 (some .int) hh_L_fix :: xT
abbrev hh_L_compose : List (Nat × Nat × Nat × Nat) := [(0, 9, 12, 13), (0, 9, 16, 15)]
abbrev ws_L_compose : List Cond := Cond.codeWith y_L_compose b_L_compose 6 (some .int) hh_L_compose :: xT
abbrev hh_L_quantify : List (Nat × Nat × Nat × Nat) := [(0, 9, 12, 13), (0, 9, 16, 15)]
abbrev ws_L_quantify : List Cond := Cond.codeWith y_L_quantify b_L_quantify 6 (some .int) hh_L_quantify :: xT
abbrev hh_L_meet : List (Nat × Nat × Nat × Nat) := [(0, 9, 12, 13), (0, 9, 16, 15)]
abbrev ws_L_meet : List Cond := Cond.codeWith y_L_meet b_L_meet 6 (some .int) hh_L_meet :: xT
abbrev hh_L_move : List (Nat × Nat × Nat × Nat) := [(0, 10, 13, 15)]
abbrev ws_L_move : List Cond := Cond.codeWith y_L_move b_L_move 5 (some .int) hh_L_move :: xT
abbrev hh_L_sift : List (Nat × Nat × Nat × Nat) := [(0, 9, 12, 15)]
abbrev ws_L_sift : List Cond := Cond.codeWith y_L_sift b_L_sift 4 (some .int) hh_L_sift :: xT
abbrev hh_L_order : List (Nat × Nat × Nat × Nat) := [(0, 9, 12, 13)]
abbrev ws_L_order : List Cond := Cond.codeWith y_L_order b_L_order 4 (some .int) hh_L_order :: xT
abbrev hh_L_size : List (Nat × Nat × Nat × Nat) := [(0, 9, 12, 13)]
abbrev ws_L_size : List Cond := Cond.codeWith y_L_size b_L_size 4 (some .int) hh_L_size :: xT
abbrev hh_L_count : List (Nat × Nat × Nat × Nat) := [(0, 9, 12, 13)]
abbrev ws_L_count : List Cond := Cond.codeWith y_L_count b_L_count 4 (some .int) hh_L_count :: xT
abbrev hh_L_value : List (Nat × Nat × Nat × Nat) := [(0, 17, 20, 13), (0, 17, 24, 15)]
abbrev ws_L_value : List Cond := Cond.codeWith y_L_value b_L_value 5 (some .int) hh_L_value :: xT
abbrev hh_L_least : List (Nat × Nat × Nat × Nat) := [(0, 9, 12, 13)]
abbrev ws_L_least : List Cond := Cond.codeWith y_L_least b_L_least 4 (some .int) hh_L_least :: xT
abbrev hh_L_support : List (Nat × Nat × Nat × Nat) := [(0, 9, 12, 13)]
abbrev ws_L_support : List Cond := Cond.codeWith y_L_support b_L_support 4 (some .int) hh_L_support :: xT
abbrev hh_L_alike : List (Nat × Nat × Nat × Nat) := [(0, 17, 20, 13)]
abbrev ws_L_alike : List Cond := Cond.codeWith y_L_alike b_L_alike 5 (some .int) hh_L_alike :: xT
abbrev hh_L_asked : List (Nat × Nat × Nat × Nat) := [(0, 12, 15, 13), (0, 12, 19, 15)]
abbrev ws_L_asked : List Cond := Cond.codeWith y_L_asked b_L_asked 6 (some .int) hh_L_asked :: xT
abbrev hh_L_questions : List (Nat × Nat × Nat × Nat) := [(0, 9, 12, 15)]
abbrev ws_L_questions : List Cond := Cond.codeWith y_L_questions b_L_questions 4 (some .int) hh_L_questions :: xT
abbrev b_L_law : ByteArray := code
abbrev y_L_law : MethodName := ⟨"DiagramHouseLaw", "law", "([I)Z"⟩
abbrev ws_L_law : List Cond := Cond.initialized "DiagramHouseLaw" :: xT
/-! the law: a method over a script of L ints xs at the cell b, which is no cell of the world -/
def XS (b L : Nat) (xs : Nat → Int32) (A : Nat → Prop) (s : State) : Prop := va_X b L xs s s.heap ∧ b < s.heap.size ∧ ¬ A b
def XEl (b L : Nat) (xs : Nat → Int32) (l : Launch) (Z : XZ) (i : XI) (u0 u : PS) (rv : Option Value) (u1 : PS) (pc : Nat) (lv : List (Nat × Value)) (st : List Value) : Prop :=
  ∀ (p : Program) (e : Env) (s : State) (m : MethodId) (args : Array Value) (below : List Frame) (meth : Method) (c : Code) (A : Nat → Prop) (H : Heap) (locs : List Loc) (ls : Array Slot), XF p s m args meth c i → XS b L xs A s → XW l Z A u0 u s H locs → lv_has ls i.2.2.1 lv →
    W p l e (xR i u0 u1) s m args below meth c H locs (u.2.1 - u0.2.1) (u.2.2 - u0.2.2) (MQ below (XQ Z A rv u1) args s (u1.2.1 - u0.2.1) (u1.2.2 - u0.2.2) A) (F0 m pc ls st)
def XNl (b L : Nat) (xs : Nat → Int32) (l : Launch) (Z : XZ) (i : XI) (u0 : PS) (K : Option Value → PS → Prop) (u : PS) (pc : Nat) (lv : List (Nat × Value)) (st : List Value) : Prop := ∃ (rv : Option Value) (u1 : PS), K rv u1 ∧ x_le u u1 ∧ XEl b L xs l Z i u0 u rv u1 pc lv st
section XRL
variable {p : Program} {l : Launch} {e : Env} {R : Room} {s : State} {m : MethodId} {args : Array Value} {below : List Frame} {meth : Method} {c : Code} {H : Heap} {locs : List Loc} {cells slots : Nat} {Q : State → Prop}
variable {cc : ByteArray} {pc : Nat} {ls : Array Slot} {rest : List Value} {Z : XZ} {A : Nat → Prop} {u0 u : PS} {b L : Nat} {xs : Nat → Int32}
theorem xr_sld (hx : p.tables.exec = Jvm.exec) (hb : c.code = cc) (hX : XS b L xs A s) (hw : XW l Z A u0 u s H locs) {j : Int32} (h : vp_in j L) (hdg : decode cc pc = .ok (.iaload, 1))
    (kk : W p l e R s m args below meth c H locs cells slots Q (F0 m (pc + 1) ls (.int (xs j.toNatClampNeg) :: rest))) : W p l e R s m args below meth c H locs cells slots Q (F0 m pc ls (.int j :: .ref b :: rest)) := va_sld hx hb hX.1 hX.2.1 hX.2.2 hw.2.2.2.1 h hdg kk
theorem xr_slen (hx : p.tables.exec = Jvm.exec) (hb : c.code = cc) (hX : XS b L xs A s) (hw : XW l Z A u0 u s H locs) (hdg : decode cc pc = .ok (.arraylength, 1))
    (kk : W p l e R s m args below meth c H locs cells slots Q (F0 m (pc + 1) ls (.int (Int32.ofNat L) :: rest))) : W p l e R s m args below meth c H locs cells slots Q (F0 m pc ls (.ref b :: rest)) := va_slen hx hb hX.1 hX.2.1 hX.2.2 hw.2.2.2.1 hdg kk
end XRL
