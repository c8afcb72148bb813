/-! Nodes: questionFrom(); Diagrams: questionOf() -/
section ASQ
variable {L : Nat → Nat → Int64} {E : (Nat → Prop) × (Nat → Option PE)} {R n : Nat × Nat} {e t : Nat} {o rt : Nat → Nat} {ad S : Nat → Nat} {I : Nat → Nat → Nat} {ln : Nat → Nat} {z : Nat × Nat} {u : PS} {g : Nat → Nat} {D : Nat → Fn} {F Fd : Nat → Nat → Bool}
theorem ask_skip {q : Nat → Bool} {x : Int32} {m : Nat} : ∀ (d j l : Nat), j + d = l → l ≤ 10 → (∀ i : Nat, j ≤ i → i < l → q i = false) → askF q o x (10 - j) j m = askF q o x (10 - l) l m := by
  intro d
  induction d with
  | zero => intro j l h1 _ _; rw [show j = l by omega]
  | succ d ih =>
    intro j l h1 h2 h3
    rw [show 10 - j = (10 - (j + 1)) + 1 by omega, askF, h3 j (Nat.le_refl _) (by omega), if_neg (by decide)]
    exact ih (j + 1) l (by omega) h2 (fun i a b => h3 i (by omega) b)
theorem q_quest_L6 (h : VC 69 ad S I ln L E z u) (sh : SH R S ln z e) (ds : DS e g (fun _ => False) S I ln) (hc : CAN (Wo o) g D) (ho : PO o) {p v : Nat} (hv : v < 1024) {x3 : Int32} {A : Int32 → PS → Prop} {B : PS → Prop} (hB : ∀ w : Int32, w = -1 → A w u → B u) : ∀ (d j m x : Nat), 10 < m + d → m ≤ j → j ≤ 10 → IN g x → D x = fx (bef o j) v.testBit (fnOf (F p)) → A (askF (askB F o p v) o x3 (10 - j) j m) u → p_N_questionFrom_L6 (ad 4) (nI v) x3 A B d (nI x) (nI m) u := by
  intro d
  induction d with
  | zero => intro j m x h1 h2 h3; exact absurd h1 (by omega)
  | succ d ih =>
    intro j m x h1 h2 h3 hx hD hA
    have se := sh.le
    have xs := ds.inlt sh hx
    -- an answer: nothing more is asked
    have ans : x < 2 → B u := fun x2 => by
      refine hB _ ?_ hA
      rw [ask_skip (10 - j) j 10 (by omega) (Nat.le_refl _) (fun i i1 i2 => ?_)]
      · rw [Nat.sub_self]; rfl
      · cases w : askB F o p v i
        · rfl
        · have dd := askB_iff.mp w
          have : fx (bef o i) v.testBit (fnOf (F p)) = D x := by
            rw [hD]
            exact fx_jump ho v.testBit (fnOf (F p)) i i1 (by omega) (fun l _ _ => by rw [← hD]; exact hc.nd x2 _)
          rw [this] at dd
          exact absurd dd (hc.nd x2 _)
    rw [p_N_questionFrom_L6]
    refine pk_le 10 m (fun cc => ?_) (fun cc => ?_)
    · obtain rfl : j = 10 := by omega
      refine ans (Classical.byContradiction (fun x2 => ?_))
      have xl := hx.resolve_left x2
      have dd := hc.dp xl
      rw [hD] at dd
      exact fx_nd (ho.bef_all (hc.k xl)) _ _ dd
    · by_cases x2 : x < 2
      · exact br_t (nI_lt (a := x) (b := 2) x2 (by decide)) (ans x2)
      · have xl := hx.resolve_left x2
        have w32 := (ds.2.2.1 x xl).2.2
        have r7 := h.nia sh 7 n7 xs
        rw [ds.cg hx, cg_lt (by omega)] at r7
        obtain ⟨l, hl, el, nb⟩ := hc.w xl
        have dl : dep (D x) (o l) := by rw [el]; exact hc.dp xl
        have jl : j ≤ l := Classical.byContradiction (fun q => by
          rw [hD] at dl
          exact fx_nd (bef_iff.mpr ⟨l, by omega, rfl⟩) _ _ dl)
        have same : fx (bef o l) v.testBit (fnOf (F p)) = D x := by
          rw [hD]
          exact fx_jump ho v.testBit (fnOf (F p)) l jl (by omega) (fun i i1 i2 => by rw [← hD]; exact nb i i2)
        have asl : askB F o p v l = true := askB_iff.mpr (by rw [same]; exact dl)
        rw [ask_skip (l - j) j l (by omega) (by omega) (fun i i1 i2 => by
          cases w : askB F o p v i
          · rfl
          · have dd := askB_iff.mp w
            rw [show fx (bef o i) v.testBit (fnOf (F p)) = D x by
              rw [hD]
              exact fx_jump ho v.testBit (fnOf (F p)) i i1 (by omega) (fun k _ k2 => by rw [← hD]; exact nb k (by omega))] at dd
            exact absurd dd (nb i i2)), show 10 - l = (10 - (l + 1)) + 1 by omega, askF, asl, if_pos rfl] at hA
        refine br_f (Int32.not_lt.mpr (nI_le (a := 2) (b := x) (by omega) (by omega))) ⟨_, h.fN (by decide) rfl, _, r7, nm_e ?_⟩
        rw [nI_nk w32, nI_n0 w32, nI_n1, ← el]
        by_cases c : nI m = x3
        · rw [if_pos c] at hA
          exact brn_t c hA
        · rw [if_neg c] at hA
          refine brn_f c ?_
          have ol := ho.1 l hl
          rw [tb_nI (by omega) (by omega)]
          have nxt : ∀ y : Nat, IN g y → D y = cof (o l) (v.testBit (o l)) (D x) → p_N_questionFrom_J72 (p_N_questionFrom_L6 (ad 4) (nI v) x3 A B d) A B (ad 4) (nI v) x3 (nI m) (nI y) u := fun y hy hDy => by
            unfold p_N_questionFrom_J72
            refine nm_e ?_
            rw [show (1 : Int32) = nI 1 from rfl, nI_add]
            exact ih (l + 1) (m + 1) y (by omega) (by omega) (by omega) hy (by rw [hDy, fx_s ho hl, same]) hA
          cases cb : v.testBit (o l)
          · exact brn_f (by decide) (nxt _ (hc.i0 xl) (by rw [cb, el, hc.c0 xl]))
          · exact brn_t rfl (nxt _ (hc.i1 xl) (by rw [cb, el, hc.c1 xl]))
theorem q_D_questionOf (h : HS n L E R F Fd o rt ad S I ln z u e t g D) {p v : Nat} (hp : p < 24) (hv : v < 1024) {x3 : Int32} {K : Int32 → PS → Prop} (hK : K (askF (askB Fd o p v) o x3 10 0 0) u) : p_D_questionOf (ad 2) (nI p) (nI v) x3 u K := by
  obtain ⟨⟨a1, a2, a3, a4, a5, a6⟩, fk, ⟨h37, h38⟩, lns, ho, h5, h6, h7, h8⟩ := h
  have l38 : ln 38 = 24 := lns.2.2.2.2.2.2.2.2.2.1
  have r38 := a1.ia 38 (by decide) (ii (by decide)) (j := p) (by omega) (by omega)
  rw [h38 p hp] at r38
  unfold p_D_questionOf
  refine ⟨_, a1.fD (by decide) rfl, _, a1.fD (by decide) rfl, _, r38, a1.obN (by decide), ?_⟩
  unfold p_N_questionFrom
  refine ⟨11, q_quest_L6 (F := Fd) (p := p) a1 a2 a3 a5.1 ho hv (A := fun y7_6 u_7 => K y7_6 u_7) (B := fun u_8 => K (-1 : Int32) u_8) (fun w hw ha => by rw [← hw]; exact ha) 11 0 0 (rt p) (by omega) (by omega) (by omega) (a5.2.1 p hp).1 (by rw [fx_0]; exact (a5.2.1 p hp).2) hK⟩
end ASQ
