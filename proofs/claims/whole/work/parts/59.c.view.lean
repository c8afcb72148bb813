/-! the class's cells by names. 0 to 5: the house, functions, diagrams, drawing, nodes, trial. Rows of ints: 6 mayUse, 7 nodes, 8 leading, 9 asks, 10 memberAt, 11 next, 12 heads, 13 seen, 14 to 23 members, 24 the trial's leading, 25 marks, 26 parts, 27 next, 28 heads, 29 places, 30 asking, 31 spots, 32 parts, 33 wordParts, 34 fourParts, 35 bitOf, 36 inputOf, 37 order, 38 roots, 39 mates, 40 turns. Rows of words: 41 words, 42 to 65 rows, 66 spare. 67 rows, 68 members, 69 a row on its way. Numbers: 0 sure, 1 broad, 2 changed, 3 matesKnown, 4 place, 5 best, 6 leastSize, 7 headShift, 8 free, 9 fresh, 10 size, 11 looks, 12 first, 13 asks, 14 mark -/
def oH (ad : Nat → Nat) : List Value := [.ref (ad 1), .ref (ad 2)]
def oF (ad S : Nat → Nat) : List Value := [.ref (ad 67), .ref (ad 6), .int (nI (S 0)), .int (nI (S 1)), .ref (ad 66)]
def oD (ad S : Nat → Nat) : List Value := [.ref (ad 1), .ref (ad 4), .ref (ad 3), .ref (ad 5), .ref (ad 37), .ref (ad 38), .int (nI (S 2)), .ref (ad 39), .int (nI (S 3)), .ref (ad 40), .int (nI (S 4)), .int (nI (S 5)), .int (nI (S 6))]
def oG (ad : Nat → Nat) : List Value := [.ref (ad 1), .ref (ad 4), .ref (ad 30), .ref (ad 31), .ref (ad 32), .ref (ad 41), .ref (ad 33), .ref (ad 34), .ref (ad 35), .ref (ad 36)]
def oN (ad S : Nat → Nat) : List Value := [.ref (ad 7), .ref (ad 8), .ref (ad 68), .ref (ad 9), .ref (ad 10), .ref (ad 11), .ref (ad 12), .int (nI (S 7)), .int (nI (S 8)), .int (nI (S 9)), .int (nI (S 10)), .ref (ad 13), .int (nI (S 11))]
def oT (ad S : Nat → Nat) : List Value := [.ref (ad 4), .int (nI (S 12)), .int (nI (S 13)), .ref (ad 24), .ref (ad 25), .int (nI (S 14)), .ref (ad 26), .ref (ad 27), .ref (ad 28), .ref (ad 29)]
def cO (ad S : Nat → Nat) (i : Nat) : Nat × List Value := match i with
  | 0 => (5, oH ad)
  | 1 => (2, oF ad S)
  | 2 => (0, oD ad S)
  | 3 => (1, oG ad)
  | 4 => (3, oN ad S)
  | _ => (4, oT ad S)
def cI (n : Nat) (f : Nat → Nat) : PE := .inl (0, n, .inl (fun j => nI (f j)))
def cL (f : Nat → Int64) : PE := .inl (1, 16, .inr (.inl f))
def rwF (ad : Nat → Nat) : Nat → Option Nat := fun p => if p < 24 then some (ad (42 + p)) else none
def mbF (ad : Nat → Nat) : Nat → Option Nat := fun p => if p < 10 then some (ad (14 + p)) else none
def cR (ad : Nat → Nat) : PE := .inl (3, 24, .inr (.inr (.inr (.inr (rwF ad)))))
def cM (ad : Nat → Nat) : PE := .inl (2, 10, .inr (.inr (.inr (.inr (mbF ad)))))
def isI (i : Nat) : Prop := (6 ≤ i ∧ i < 41) ∨ 69 ≤ i
def cS (ad S : Nat → Nat) (I : Nat → Nat → Nat) (ln : Nat → Nat) (L : Nat → Nat → Int64) (i : Nat) : PE := if i < 6 then .inr (cO ad S i) else if i < 41 then cI (ln i) (I i) else if i < 67 then cL (L i) else if i = 67 then cR ad else if i = 68 then cM ad else cI (ln i) (I i)
/-- n names; E: what belongs to others, and its cells; z: the sizes -/
def VC (n : Nat) (ad S : Nat → Nat) (I : Nat → Nat → Nat) (ln : Nat → Nat) (L : Nat → Nat → Int64) (E : (Nat → Prop) × (Nat → Option PE)) (z : Nat × Nat) (u : PS) : Prop :=
  (∀ i : Nat, i < n → u.1 (ad i) = some (cS ad S I ln L i)) ∧ (∀ i j : Nat, i < n → j < n → ad i = ad j → i = j) ∧ (∀ i : Nat, i < n → ad i < z.1 ∧ ¬ E.1 (ad i)) ∧ (∀ q : Nat, E.1 q → q < z.1 ∧ u.1 q = E.2 q) ∧ u.2 = z
theorem cS_o {ad S : Nat → Nat} {I : Nat → Nat → Nat} {ln : Nat → Nat} {L : Nat → Nat → Int64} {i : Nat} (h : i < 6) : cS ad S I ln L i = .inr (cO ad S i) := if_pos h
theorem cS_i {ad S : Nat → Nat} {I : Nat → Nat → Nat} {ln : Nat → Nat} {L : Nat → Nat → Int64} {i : Nat} (h : isI i) : cS ad S I ln L i = cI (ln i) (I i) := by
  unfold cS
  rcases h with ⟨h1, h2⟩ | h
  · rw [if_neg (by omega), if_pos h2]
  · rw [if_neg (by omega), if_neg (by omega), if_neg (by omega), if_neg (by omega), if_neg (by omega)]
theorem cS_l {ad S : Nat → Nat} {I : Nat → Nat → Nat} {ln : Nat → Nat} {L : Nat → Nat → Int64} {i : Nat} (h : 41 ≤ i ∧ i < 67) : cS ad S I ln L i = cL (L i) := by
  unfold cS
  rw [if_neg (by omega), if_neg (by omega), if_pos h.2]
theorem cS_r {ad S : Nat → Nat} {I : Nat → Nat → Nat} {ln : Nat → Nat} {L : Nat → Nat → Int64} : cS ad S I ln L 67 = cR ad := rfl
theorem cS_m {ad S : Nat → Nat} {I : Nat → Nat → Nat} {ln : Nat → Nat} {L : Nat → Nat → Int64} : cS ad S I ln L 68 = cM ad := rfl
/-- what a cell holds depends only on what it holds -/
theorem cS_I {ad S : Nat → Nat} {I I' : Nat → Nat → Nat} {ln : Nat → Nat} {L : Nat → Nat → Int64} {i : Nat} (h : I' i = I i) : cS ad S I' ln L i = cS ad S I ln L i := by
  unfold cS
  rw [h]
theorem cS_L {ad S : Nat → Nat} {I : Nat → Nat → Nat} {ln : Nat → Nat} {L L' : Nat → Nat → Int64} {i : Nat} (h : L' i = L i) : cS ad S I ln L' i = cS ad S I ln L i := by
  unfold cS
  rw [h]
theorem cS_S {ad S S' : Nat → Nat} {I : Nat → Nat → Nat} {ln : Nat → Nat} {L : Nat → Nat → Int64} {i : Nat} (h : cO ad S' i = cO ad S i ∨ 6 ≤ i) : cS ad S' I ln L i = cS ad S I ln L i := by
  unfold cS
  by_cases c : i < 6
  · rw [if_pos c, if_pos c]
    rcases h with h | h
    · rw [h]
    · omega
  · rw [if_neg c, if_neg c]
section VCs
variable {n : Nat} {ad S : Nat → Nat} {I : Nat → Nat → Nat} {ln : Nat → Nat} {L : Nat → Nat → Int64} {E : (Nat → Prop) × (Nat → Option PE)} {z : Nat × Nat} {u : PS}
/-- one cell becomes another -/
theorem VC.upc (h : VC n ad S I ln L E z u) {S' : Nat → Nat} {I' : Nat → Nat → Nat} {L' : Nat → Nat → Int64} {i : Nat} (hi : i < n) (e : PE) (he : cS ad S' I' ln L' i = e) (ho : ∀ j : Nat, j < n → j ≠ i → cS ad S' I' ln L' j = cS ad S I ln L j) : VC n ad S' I' ln L' E z (x_up u (ad i) e) := by
  obtain ⟨h1, h2, h3, h4, h5⟩ := h
  refine ⟨fun j hj => ?_, h2, h3, fun q hq => ⟨(h4 q hq).1, ?_⟩, h5⟩
  · by_cases c : j = i
    · subst c; rw [x_up_s, he]
    · rw [x_up_n u e (fun z => c (h2 j i hj hi z)), h1 j hj, ho j hj c]
  · rw [x_up_n (b := q) u e (fun w : q = ad i => (h3 i hi).2 (by rw [← w]; exact hq))]
    exact (h4 q hq).2
theorem VC.at (h : VC n ad S I ln L E z u) {i : Nat} (hi : i < n) : u.1 (ad i) = some (cS ad S I ln L i) := h.1 i hi
theorem VC.oc (h : VC n ad S I ln L E z u) (hn : 69 ≤ n) (i : Nat) (hi : i < 6) {ci : Nat} {fs : List Value} (e : cO ad S i = (ci, fs)) : u.1 (ad i) = some (.inr (ci, fs)) := by
  rw [h.at (by omega), cS_o hi, e]
theorem VC.obH (h : VC n ad S I ln L E z u) (hn : 69 ≤ n) : x_ob u (ad 0) 5 := ⟨_, h.oc hn 0 (by decide) rfl⟩
theorem VC.obF (h : VC n ad S I ln L E z u) (hn : 69 ≤ n) : x_ob u (ad 1) 2 := ⟨_, h.oc hn 1 (by decide) rfl⟩
theorem VC.obD (h : VC n ad S I ln L E z u) (hn : 69 ≤ n) : x_ob u (ad 2) 0 := ⟨_, h.oc hn 2 (by decide) rfl⟩
theorem VC.obG (h : VC n ad S I ln L E z u) (hn : 69 ≤ n) : x_ob u (ad 3) 1 := ⟨_, h.oc hn 3 (by decide) rfl⟩
theorem VC.obN (h : VC n ad S I ln L E z u) (hn : 69 ≤ n) : x_ob u (ad 4) 3 := ⟨_, h.oc hn 4 (by decide) rfl⟩
theorem VC.obT (h : VC n ad S I ln L E z u) (hn : 69 ≤ n) : x_ob u (ad 5) 4 := ⟨_, h.oc hn 5 (by decide) rfl⟩
theorem VC.fH (h : VC n ad S I ln L E z u) (hn : 69 ≤ n) {k : Nat} {v : Value} (hk : (oH ad)[k]? = some v) : x_fv u (ad 0) 5 k v := ⟨_, h.oc hn 0 (by decide) rfl, hk⟩
theorem VC.fF (h : VC n ad S I ln L E z u) (hn : 69 ≤ n) {k : Nat} {v : Value} (hk : (oF ad S)[k]? = some v) : x_fv u (ad 1) 2 k v := ⟨_, h.oc hn 1 (by decide) rfl, hk⟩
theorem VC.fD (h : VC n ad S I ln L E z u) (hn : 69 ≤ n) {k : Nat} {v : Value} (hk : (oD ad S)[k]? = some v) : x_fv u (ad 2) 0 k v := ⟨_, h.oc hn 2 (by decide) rfl, hk⟩
theorem VC.fG (h : VC n ad S I ln L E z u) (hn : 69 ≤ n) {k : Nat} {v : Value} (hk : (oG ad)[k]? = some v) : x_fv u (ad 3) 1 k v := ⟨_, h.oc hn 3 (by decide) rfl, hk⟩
theorem VC.fN (h : VC n ad S I ln L E z u) (hn : 69 ≤ n) {k : Nat} {v : Value} (hk : (oN ad S)[k]? = some v) : x_fv u (ad 4) 3 k v := ⟨_, h.oc hn 4 (by decide) rfl, hk⟩
theorem VC.fT (h : VC n ad S I ln L E z u) (hn : 69 ≤ n) {k : Nat} {v : Value} (hk : (oT ad S)[k]? = some v) : x_fv u (ad 5) 4 k v := ⟨_, h.oc hn 5 (by decide) rfl, hk⟩
theorem VC.ic (h : VC n ad S I ln L E z u) {i : Nat} (hi : i < n) (hI : isI i) : u.1 (ad i) = some (cI (ln i) (I i)) := by rw [h.at hi, cS_i hI]
theorem VC.ia (h : VC n ad S I ln L E z u) (i : Nat) (hi : i < n) (hI : isI i) {j : Nat} (hj : j < ln i) (hl : ln i < 2 ^ 31) : x_ia u (ad i) (nI j) (nI (I i j)) := ⟨ln i, _, h.ic hi hI, vp_in_nI hj hl, by rw [nI_clamp (by omega)]⟩
theorem VC.an (h : VC n ad S I ln L E z u) (i : Nat) (hi : i < n) (hI : isI i) : x_an u 0 (ad i) (nI (ln i)) := ⟨_, h.ic hi hI, rfl⟩
theorem upd_nI (f : Nat → Nat) (j v : Nat) : upd (fun i => nI (f i)) j (nI v) = fun i => nI (va_up f j v i) := by
  funext i
  by_cases e : i = j
  · subst e; rw [pk_us, up_eq]
  · rw [pk_un e, up_ne _ _ e]
theorem VC.isx (h : VC n ad S I ln L E z u) (i : Nat) (hi : i < n) (hI : isI i) {j : Nat} (hj : j < ln i) (hl : ln i < 2 ^ 31) (v : Nat) : ∃ u' : PS, x_is u (ad i) (nI j) (nI v) u' ∧ VC n ad S (va_up I i (va_up (I i) j v)) ln L E z u' := by
  refine ⟨_, ⟨ln i, _, h.ic hi hI, vp_in_nI hj hl, rfl⟩, ?_⟩
  rw [nI_clamp (by omega), upd_nI]
  refine h.upc hi _ ?_ (fun k hk hne => cS_I (up_ne _ _ hne))
  rw [cS_i hI, up_eq]
  rfl
/-- a whole row -/
theorem VC.row (h : VC n ad S I ln L E z u) (i : Nat) (hi : i < n) (hI : isI i) (f : Nat → Nat) : VC n ad S (va_up I i f) ln L E z (x_up u (ad i) (cI (ln i) f)) := h.upc hi _ (by rw [cS_i hI, up_eq]) (fun k hk hne => cS_I (up_ne _ _ hne))
theorem VC.lc (h : VC n ad S I ln L E z u) {i : Nat} (hn : 69 ≤ n) (hI : 41 ≤ i ∧ i < 67) : u.1 (ad i) = some (cL (L i)) := by rw [h.at (by omega), cS_l hI]
theorem VC.la (h : VC n ad S I ln L E z u) (hn : 69 ≤ n) (i : Nat) (hI : 41 ≤ i ∧ i < 67) {j : Nat} (hj : j < 16) : x_la u (ad i) (nI j) (L i j) := ⟨16, _, h.lc hn hI, vp_in_nI hj (by decide), by rw [nI_clamp (by omega)]⟩
theorem VC.lsx (h : VC n ad S I ln L E z u) (hn : 69 ≤ n) (i : Nat) (hI : 41 ≤ i ∧ i < 67) {j : Nat} (hj : j < 16) (v : Int64) : ∃ u' : PS, x_ls u (ad i) (nI j) v u' ∧ VC n ad S I ln (va_up L i (vp_updL (L i) j v)) E z u' := by
  refine ⟨_, ⟨16, _, h.lc hn hI, vp_in_nI hj (by decide), rfl⟩, ?_⟩
  rw [nI_clamp (by omega)]
  refine h.upc (by omega) _ ?_ (fun k hk hne => cS_L (up_ne _ _ hne))
  rw [cS_l hI, up_eq]
  rfl
theorem VC.ra (h : VC n ad S I ln L E z u) (hn : 69 ≤ n) {p : Nat} (hp : p < 24) : x_ra u 3 (ad 67) (nI p) (ad (42 + p)) := by
  refine ⟨24, _, by rw [h.at (by omega), cS_r]; rfl, vp_in_nI hp (by decide), ?_⟩
  rw [nI_clamp (by omega)]
  exact if_pos hp
theorem VC.rm (h : VC n ad S I ln L E z u) (hn : 69 ≤ n) {p : Nat} (hp : p < 10) : x_ra u 2 (ad 68) (nI p) (ad (14 + p)) := by
  refine ⟨10, _, by rw [h.at (by omega), cS_m]; rfl, vp_in_nI hp (by decide), ?_⟩
  rw [nI_clamp (by omega)]
  exact if_pos hp
/-- a number of an object -/
theorem VC.pvx (h : VC n ad S I ln L E z u) (hn : 69 ≤ n) (i k s x : Nat) {ci : Nat} (hi : i < 6) (hk : k < (cO ad S i).2.length) (hc : (cO ad S i).1 = ci) (e : (cO ad S i).2.set k (.int (nI x)) = (cO ad (va_up S s x) i).2) (e1 : (cO ad (va_up S s x) i).1 = ci) (ho : ∀ j : Nat, j < 6 → j ≠ i → cO ad (va_up S s x) j = cO ad S j) : ∃ u' : PS, x_pv u (ad i) ci k (.int (nI x)) u' ∧ VC n ad (va_up S s x) I ln L E z u' := by
  refine ⟨_, ⟨(cO ad S i).2, h.oc hn i hi (by rw [← hc]), hk, rfl⟩, ?_⟩
  refine h.upc (by omega) _ ?_ (fun j hj hne => cS_S ?_)
  · rw [cS_o hi, e, ← e1]
  · by_cases c : j < 6
    · exact Or.inl (ho j c hne)
    · exact Or.inr (by omega)
theorem six {P : Nat → Prop} (h0 : P 0) (h1 : P 1) (h2 : P 2) (h3 : P 3) (h4 : P 4) (h5 : P 5) : ∀ j : Nat, j < 6 → P j := fun j hj => by
  rcases (by omega : j = 0 ∨ j = 1 ∨ j = 2 ∨ j = 3 ∨ j = 4 ∨ j = 5) with rfl | rfl | rfl | rfl | rfl | rfl <;> assumption
theorem VC.sF (h : VC n ad S I ln L E z u) (hn : 69 ≤ n) (k s x : Nat) (hk : k < 5) (e : (oF ad S).set k (.int (nI x)) = oF ad (va_up S s x)) (hD : oD ad (va_up S s x) = oD ad S) (hN : oN ad (va_up S s x) = oN ad S) (hT : oT ad (va_up S s x) = oT ad S) : ∃ u' : PS, x_pv u (ad 1) 2 k (.int (nI x)) u' ∧ VC n ad (va_up S s x) I ln L E z u' :=
  h.pvx hn 1 k s x (by decide) hk rfl e rfl (six (fun _ => rfl) (fun c => absurd rfl c) (fun _ => congrArg (Prod.mk 0) hD) (fun _ => rfl) (fun _ => congrArg (Prod.mk 3) hN) (fun _ => congrArg (Prod.mk 4) hT))
theorem VC.sD (h : VC n ad S I ln L E z u) (hn : 69 ≤ n) (k s x : Nat) (hk : k < 13) (e : (oD ad S).set k (.int (nI x)) = oD ad (va_up S s x)) (hF : oF ad (va_up S s x) = oF ad S) (hN : oN ad (va_up S s x) = oN ad S) (hT : oT ad (va_up S s x) = oT ad S) : ∃ u' : PS, x_pv u (ad 2) 0 k (.int (nI x)) u' ∧ VC n ad (va_up S s x) I ln L E z u' :=
  h.pvx hn 2 k s x (by decide) hk rfl e rfl (six (fun _ => rfl) (fun _ => congrArg (Prod.mk 2) hF) (fun c => absurd rfl c) (fun _ => rfl) (fun _ => congrArg (Prod.mk 3) hN) (fun _ => congrArg (Prod.mk 4) hT))
theorem VC.sN (h : VC n ad S I ln L E z u) (hn : 69 ≤ n) (k s x : Nat) (hk : k < 13) (e : (oN ad S).set k (.int (nI x)) = oN ad (va_up S s x)) (hF : oF ad (va_up S s x) = oF ad S) (hD : oD ad (va_up S s x) = oD ad S) (hT : oT ad (va_up S s x) = oT ad S) : ∃ u' : PS, x_pv u (ad 4) 3 k (.int (nI x)) u' ∧ VC n ad (va_up S s x) I ln L E z u' :=
  h.pvx hn 4 k s x (by decide) hk rfl e rfl (six (fun _ => rfl) (fun _ => congrArg (Prod.mk 2) hF) (fun _ => congrArg (Prod.mk 0) hD) (fun _ => rfl) (fun c => absurd rfl c) (fun _ => congrArg (Prod.mk 4) hT))
theorem VC.sT (h : VC n ad S I ln L E z u) (hn : 69 ≤ n) (k s x : Nat) (hk : k < 10) (e : (oT ad S).set k (.int (nI x)) = oT ad (va_up S s x)) (hF : oF ad (va_up S s x) = oF ad S) (hD : oD ad (va_up S s x) = oD ad S) (hN : oN ad (va_up S s x) = oN ad S) : ∃ u' : PS, x_pv u (ad 5) 4 k (.int (nI x)) u' ∧ VC n ad (va_up S s x) I ln L E z u' :=
  h.pvx hn 5 k s x (by decide) hk rfl e rfl (six (fun _ => rfl) (fun _ => congrArg (Prod.mk 2) hF) (fun _ => congrArg (Prod.mk 0) hD) (fun _ => rfl) (fun _ => congrArg (Prod.mk 3) hN) (fun c => absurd rfl c))
end VCs
section VCg
variable {n : Nat} {ad S : Nat → Nat} {I : Nat → Nat → Nat} {ln : Nat → Nat} {L : Nat → Nat → Int64} {E : (Nat → Prop) × (Nat → Option PE)} {z : Nat × Nat} {u : PS}
theorem cR_ad {ad ad' : Nat → Nat} (h : ∀ m : Nat, 42 ≤ m → m < 66 → ad' m = ad m) : cR ad' = cR ad := by
  have e : rwF ad' = rwF ad := by
    funext p
    unfold rwF
    by_cases c : p < 24
    · rw [if_pos c, if_pos c, h _ (by omega) (by omega)]
    · rw [if_neg c, if_neg c]
  unfold cR
  rw [e]
theorem cM_ad {ad ad' : Nat → Nat} (h : ∀ m : Nat, 14 ≤ m → m < 24 → ad' m = ad m) : cM ad' = cM ad := by
  have e : mbF ad' = mbF ad := by
    funext p
    unfold mbF
    by_cases c : p < 10
    · rw [if_pos c, if_pos c, h _ (by omega) (by omega)]
    · rw [if_neg c, if_neg c]
  unfold cM
  rw [e]
theorem cR_up (ad : Nat → Nat) {i a : Nat} (h : i < 42 ∨ 66 ≤ i) : cR (va_up ad i a) = cR ad := cR_ad (fun m h1 h2 => up_ne _ _ (by omega))
theorem cM_up (ad : Nat → Nat) {i a : Nat} (h : i < 14 ∨ 24 ≤ i) : cM (va_up ad i a) = cM ad := cM_ad (fun m h1 h2 => up_ne _ _ (by omega))
theorem cO_ad {ad ad' : Nat → Nat} (S : Nat → Nat) (h : ∀ m : Nat, m < 14 ∨ (24 ≤ m ∧ m < 42) ∨ m = 66 ∨ m = 67 ∨ m = 68 → ad' m = ad m) : ∀ i : Nat, i < 6 → cO ad' S i = cO ad S i := by
  have q : ∀ m : Nat, m < 14 ∨ (24 ≤ m ∧ m < 42) ∨ m = 66 ∨ m = 67 ∨ m = 68 → ad' m = ad m := h
  have q1 := q 1 (by omega)
  have q2 := q 2 (by omega)
  have q3 := q 3 (by omega)
  have q4 := q 4 (by omega)
  have q5 := q 5 (by omega)
  have q6 := q 6 (by omega)
  have q7 := q 7 (by omega)
  have q8 := q 8 (by omega)
  have q9 := q 9 (by omega)
  have q10 := q 10 (by omega)
  have q11 := q 11 (by omega)
  have q12 := q 12 (by omega)
  have q13 := q 13 (by omega)
  have q24 := q 24 (by omega)
  have q25 := q 25 (by omega)
  have q26 := q 26 (by omega)
  have q27 := q 27 (by omega)
  have q28 := q 28 (by omega)
  have q29 := q 29 (by omega)
  have q30 := q 30 (by omega)
  have q31 := q 31 (by omega)
  have q32 := q 32 (by omega)
  have q33 := q 33 (by omega)
  have q34 := q 34 (by omega)
  have q35 := q 35 (by omega)
  have q36 := q 36 (by omega)
  have q37 := q 37 (by omega)
  have q38 := q 38 (by omega)
  have q39 := q 39 (by omega)
  have q40 := q 40 (by omega)
  have q41 := q 41 (by omega)
  have q66 := q 66 (by omega)
  have q67 := q 67 (by omega)
  have q68 := q 68 (by omega)
  refine six ?_ ?_ ?_ ?_ ?_ ?_
  · show (5, oH ad') = (5, oH ad)
    unfold oH; rw [q1, q2]
  · show (2, oF ad' S) = (2, oF ad S)
    unfold oF; rw [q67, q6, q66]
  · show (0, oD ad' S) = (0, oD ad S)
    unfold oD; rw [q1, q4, q3, q5, q37, q38, q39, q40]
  · show (1, oG ad') = (1, oG ad)
    unfold oG; rw [q1, q4, q30, q31, q32, q41, q33, q34, q35, q36]
  · show (3, oN ad' S) = (3, oN ad S)
    unfold oN; rw [q7, q8, q68, q9, q10, q11, q12, q13]
  · show (4, oT ad' S) = (4, oT ad S)
    unfold oT; rw [q4, q24, q25, q26, q27, q28, q29]
theorem cO_69 (ad S : Nat → Nat) (a : Nat) : ∀ i : Nat, i < 6 → cO (va_up ad 69 a) S i = cO ad S i := cO_ad S (fun m hm => up_ne _ _ (by omega))
/-- a new row -/
theorem VC.new (h : VC 69 ad S I ln L E z u) (m : Nat) (hm : m * 4 ≤ 536870912) : ∃ u' : PS, x_ni u (nI m) z.1 u' ∧ VC 70 (va_up ad 69 z.1) S (va_up I 69 (fun _ => 0)) (va_up ln 69 m) L E (z.1 + 1, z.2 + m) u' := by
  obtain ⟨h1, h2, h3, h4, h5⟩ := h
  have e5 : u.2.1 = z.1 := by rw [h5]
  have e6 : u.2.2 = z.2 := by rw [h5]
  have ec : (nI m).toNatClampNeg = m := nI_clamp (by omega)
  refine ⟨x_nw u (cI m (fun _ => 0)) m, ⟨?_, by rw [ec]; exact hm, e5.symm, by rw [ec]; rfl⟩, ?_⟩
  · exact Int32.not_lt.mpr (nI_le (a := 0) (b := m) (by omega) (by omega))
  · have hlt : ∀ i : Nat, i < 70 → i ≠ 69 → i < 69 := fun i a b => by omega
    have nw : ∀ q : Nat, q ≠ z.1 → (x_nw u (cI m (fun _ => 0)) m).1 q = u.1 q := fun q hq => by
      show va_up u.1 u.2.1 _ q = _
      rw [up_ne _ _ (by rw [e5]; exact hq)]
    refine ⟨fun i hi => ?_, fun i j hi hj e => ?_, fun i hi => ?_, fun q hq => ?_, ?_⟩
    · by_cases c : i = 69
      · subst c
        rw [up_eq, cS_i (Or.inr (by omega)), up_eq, up_eq]
        show va_up u.1 u.2.1 _ z.1 = _
        rw [e5, up_eq]
      · have hi' := hlt i hi c
        have a1 := (h3 i hi').1
        rw [up_ne _ _ c, nw _ (by omega), h1 i hi']
        congr 1
        unfold cS
        rw [up_ne _ _ c, up_ne _ _ c, cR_up ad (by omega), cM_up ad (by omega)]
        by_cases d : i < 6
        · rw [if_pos d, if_pos d, cO_69 ad S z.1 i d]
        · rw [if_neg d, if_neg d]
    · by_cases c : i = 69 <;> by_cases d : j = 69
      · omega
      · have := (h3 j (hlt j hj d)).1
        subst c; rw [up_eq, up_ne _ _ d] at e; omega
      · have := (h3 i (hlt i hi c)).1
        subst d; rw [up_eq, up_ne _ _ c] at e; omega
      · rw [up_ne _ _ c, up_ne _ _ d] at e
        exact h2 i j (hlt i hi c) (hlt j hj d) e
    · by_cases c : i = 69
      · subst c
        rw [up_eq]
        exact ⟨by show z.1 < z.1 + 1; omega, fun hq => by have := (h4 _ hq).1; omega⟩
      · rw [up_ne _ _ c]
        have := h3 i (hlt i hi c)
        exact ⟨by show ad i < z.1 + 1; omega, this.2⟩
    · have := h4 q hq
      exact ⟨by show q < z.1 + 1; omega, by rw [nw q (by omega)]; exact this.2⟩
    · show (u.2.1 + 1, u.2.2 + m) = (z.1 + 1, z.2 + m)
      rw [e5, e6]
/-- the new row takes the place of name i -/
theorem VC.ren (h : VC 70 ad S I ln L E z u) {i c : Nat} (hi : i < 69) (hc : c < 69) (hic : c ≠ i) (hI : isI i) (e : PE) (he : cS (va_up ad i (ad 69)) S (va_up I i (I 69)) (va_up ln i (ln 69)) L c = e) (ho : ∀ j : Nat, j < 69 → j ≠ c → j ≠ i → cS (va_up ad i (ad 69)) S (va_up I i (I 69)) (va_up ln i (ln 69)) L j = cS ad S I ln L j) : VC 69 (va_up ad i (ad 69)) S (va_up I i (I 69)) (va_up ln i (ln 69)) L E z (x_up u (ad c) e) := by
  obtain ⟨h1, h2, h3, h4, h5⟩ := h
  have n69 : ∀ j : Nat, j < 69 → ad j ≠ ad 69 := fun j hj q => by have := h2 j 69 (by omega) (by omega) q; omega
  refine ⟨fun j hj => ?_, fun j k hj hk q => ?_, fun j hj => ?_, fun q hq => ⟨(h4 q hq).1, ?_⟩, h5⟩
  · by_cases a : j = i
    · subst a
      rw [up_eq, x_up_n u e (n69 c hc).symm, h1 69 (by omega), cS_i (Or.inr (by omega)), cS_i hI, up_eq, up_eq]
    · rw [up_ne _ _ a]
      by_cases b : j = c
      · subst b; rw [x_up_s, he]
      · rw [x_up_n u e (fun q => b (h2 j c (by omega) (by omega) q)), h1 j (by omega), ho j hj b a]
  · by_cases a : j = i <;> by_cases b : k = i
    · omega
    · subst a; rw [up_eq, up_ne _ _ b] at q; exact absurd q.symm (n69 k hk)
    · subst b; rw [up_eq, up_ne _ _ a] at q; exact absurd q (n69 j hj)
    · rw [up_ne _ _ a, up_ne _ _ b] at q; exact h2 j k (by omega) (by omega) q
  · by_cases a : j = i
    · subst a; rw [up_eq]; exact h3 69 (by omega)
    · rw [up_ne _ _ a]; exact h3 j (by omega)
  · rw [x_up_n (b := q) u e (fun w : q = ad c => (h3 c (by omega)).2 (by rw [← w]; exact hq))]
    exact (h4 q hq).2
/-- of an object -/
theorem VC.renO (h : VC 70 ad S I ln L E z u) {i c k ci : Nat} {fs : List Value} (hi : 6 ≤ i ∧ i < 41) (hm : i < 14 ∨ 24 ≤ i) (hc : c < 6) (e0 : cO ad S c = (ci, fs)) (hk : k < fs.length) (e : cO (va_up ad i (ad 69)) S c = (ci, fs.set k (.ref (ad 69)))) (ho : ∀ j : Nat, j < 6 → j ≠ c → cO (va_up ad i (ad 69)) S j = cO ad S j) : ∃ u' : PS, x_pv u (ad c) ci k (.ref (ad 69)) u' ∧ VC 69 (va_up ad i (ad 69)) S (va_up I i (I 69)) (va_up ln i (ln 69)) L E z u' := by
  refine ⟨_, ⟨fs, h.oc (by omega) c hc e0, hk, rfl⟩, ?_⟩
  refine h.ren (i := i) (by omega) (by omega) (by omega) (Or.inl hi) _ (by rw [cS_o hc, e]) (fun j hj a b => ?_)
  unfold cS
  rw [up_ne _ _ b, up_ne _ _ b, cR_up ad (by omega), cM_up ad hm]
  by_cases d : j < 6
  · rw [if_pos d, if_pos d, ho j d a]
  · rw [if_neg d, if_neg d]
/-- of an input's members -/
theorem VC.renM (h : VC 70 ad S I ln L E z u) {k : Nat} (hk : k < 10) : ∃ u' : PS, x_rs u 2 0 (ad 68) (nI k) (ad 69) u' ∧ VC 69 (va_up ad (14 + k) (ad 69)) S (va_up I (14 + k) (I 69)) (va_up ln (14 + k) (ln 69)) L E z u' := by
  refine ⟨_, ⟨10, _, _, by rw [h.at (show 68 < 70 by omega), cS_m]; rfl, h.ic (show 69 < 70 by omega) (Or.inr (by omega)), vp_in_nI hk (by decide), rfl⟩, ?_⟩
  rw [nI_clamp (by omega)]
  refine h.ren (i := 14 + k) (by omega) (by omega) (by omega) (Or.inl (by omega)) _ ?_ (fun j hj a b => ?_)
  · rw [cS_m]
    have e : mbF (va_up ad (14 + k) (ad 69)) = va_up (mbF ad) k (some (ad 69)) := by
      funext p
      unfold mbF
      by_cases c : p = k
      · subst c; rw [if_pos hk, up_eq, up_eq]
      · rw [up_ne _ _ c]
        by_cases d : p < 10
        · rw [if_pos d, if_pos d, up_ne _ _ (by omega)]
        · rw [if_neg d, if_neg d]
    unfold cM
    rw [e]
  · unfold cS
    rw [up_ne _ _ b, up_ne _ _ b, cR_up ad (by omega)]
    by_cases d : j < 6
    · rw [if_pos d, if_pos d, cO_ad S (fun m hm => up_ne _ _ (by omega)) j d]
    · rw [if_neg d, if_neg d]
      by_cases f : j < 41
      · rw [if_pos f, if_pos f]
      · rw [if_neg f, if_neg f]
        by_cases f2 : j < 67
        · rw [if_pos f2, if_pos f2]
        · rw [if_neg f2, if_neg f2]
          by_cases f3 : j = 67
          · rw [if_pos f3, if_pos f3]
          · rw [if_neg f3, if_neg f3, if_neg a, if_neg a]
/-- one row into another -/
theorem VC.cpx (h : VC n ad S I ln L E z u) {i j s d m : Nat} (hi : i < n) (hI : isI i) (hj : j < n) (hJ : isI j) (hs : s + m ≤ ln i) (hd : d + m ≤ ln j) (li : ln i < 2 ^ 31) (lj : ln j < 2 ^ 31) : ∃ u' : PS, x_cp u (ad i) (nI s) (ad j) (nI d) (nI m) u' ∧ VC n ad S (va_up I j (va_cpy (I i) (I j) s d m)) ln L E z u' := by
  have p : ∀ q : Nat, q < 2 ^ 31 → ¬ nI q < 0 := fun q hq => Int32.not_lt.mpr (nI_le (a := 0) (b := q) (by omega) hq)
  have e : va_cpy (fun k => nI (I i k)) (fun k => nI (I j k)) s d m = fun k => nI (va_cpy (I i) (I j) s d m k) := by
    funext k
    unfold va_cpy
    split <;> rfl
  refine ⟨_, ⟨ln i, ln j, _, _, h.ic hi hI, h.ic hj hJ, p s (by omega), p d (by omega), p m (by omega), ?_, ?_, rfl⟩, ?_⟩
  · rw [nI_clamp (by omega), nI_clamp (by omega)]; exact hs
  · rw [nI_clamp (by omega), nI_clamp (by omega)]; exact hd
  · rw [nI_clamp (by omega), nI_clamp (by omega), nI_clamp (by omega), e]
    exact h.row j hj hJ _
/-- a place's row and the spare one -/
theorem VC.swp (h : VC 69 ad S I ln L E z u) {p : Nat} (hp : p < 24) : ∃ u1 u2 : PS, x_rs u 3 1 (ad 67) (nI p) (ad 66) u1 ∧ x_pv u1 (ad 1) 2 4 (.ref (ad (42 + p))) u2 ∧ VC 69 (va_up (va_up ad (42 + p) (ad 66)) 66 (ad (42 + p))) S I ln (va_up (va_up L (42 + p) (L 66)) 66 (L (42 + p))) E z u2 := by
  have h0 := h
  obtain ⟨h1, h2, h3, h4, h5⟩ := h
  have i1 : ad 1 ≠ ad 67 := fun q => by have := h2 1 67 (by omega) (by omega) q; omega
  refine ⟨_, _, ⟨24, rwF ad, _, by rw [h1 67 (by omega)]; rfl, h0.lc (by omega) (i := 66) (by omega), vp_in_nI hp (by decide), rfl⟩, ⟨oF ad S, ?_, by show 4 < 5; omega, rfl⟩, ?_⟩
  · rw [x_up_n _ _ i1]
    exact h0.oc (by omega) 1 (by decide) rfl
  · rw [nI_clamp (by omega)]
    have up : ∀ q : Nat, q ≠ ad 1 → q ≠ ad 67 → ∀ e1 e2 : PE, (x_up (x_up u (ad 67) e1) (ad 1) e2).1 q = u.1 q := fun q a b e1 e2 => by rw [x_up_n _ _ a, x_up_n _ _ b]
    have a66 : va_up (va_up ad (42 + p) (ad 66)) 66 (ad (42 + p)) 66 = ad (42 + p) := up_eq _ _ _
    have ap : va_up (va_up ad (42 + p) (ad 66)) 66 (ad (42 + p)) (42 + p) = ad 66 := by rw [up_ne _ _ (by omega), up_eq]
    have an : ∀ j : Nat, j ≠ 66 → j ≠ 42 + p → va_up (va_up ad (42 + p) (ad 66)) 66 (ad (42 + p)) j = ad j := fun j a b => by rw [up_ne _ _ a, up_ne _ _ b]
    refine ⟨fun j hj => ?_, fun j k hj hk q => ?_, fun j hj => ?_, fun q hq => ⟨(h4 q hq).1, ?_⟩, h5⟩
    · by_cases c1 : j = 66
      · subst c1
        rw [a66, up _ (fun q => by have := h2 _ _ (by omega) (by omega) q; omega) (fun q => by have := h2 _ _ (by omega) (by omega) q; omega), h1 _ (by omega), cS_l (by omega), cS_l (by omega), up_eq]
      · by_cases c2 : j = 42 + p
        · subst c2
          rw [ap, up _ (fun q => by have := h2 _ _ (by omega) (by omega) q; omega) (fun q => by have := h2 _ _ (by omega) (by omega) q; omega), h1 _ (by omega), cS_l (by omega), cS_l (by omega), up_ne _ _ c1, up_eq]
        · rw [an j c1 c2]
          by_cases c3 : j = 1
          · subst c3
            rw [x_up_s, cS_o (by omega)]
            show some (Sum.inr (2, (oF ad S).set 4 (.ref (ad (42 + p))))) = some (Sum.inr (2, oF (va_up (va_up ad (42 + p) (ad 66)) 66 (ad (42 + p))) S))
            unfold oF
            rw [an 67 (by omega) (by omega), an 6 (by omega) (by omega), a66]
            rfl
          · by_cases c4 : j = 67
            · subst c4
              rw [x_up_n _ _ (fun q => i1 q.symm), x_up_s, cS_r]
              have e : rwF (va_up (va_up ad (42 + p) (ad 66)) 66 (ad (42 + p))) = va_up (rwF ad) p (some (ad 66)) := by
                funext q
                unfold rwF
                by_cases c : q = p
                · subst c; rw [if_pos hp, up_eq, ap]
                · rw [up_ne _ _ c]
                  by_cases d : q < 24
                  · rw [if_pos d, if_pos d, an _ (by omega) (by omega)]
                  · rw [if_neg d, if_neg d]
              unfold cR
              rw [e]
            · rw [up _ (fun q => c3 (h2 _ _ (by omega) (by omega) q)) (fun q => c4 (h2 _ _ (by omega) (by omega) q)), h1 j hj]
              congr 1
              unfold cS
              rw [cM_ad (ad' := va_up (va_up ad (42 + p) (ad 66)) 66 (ad (42 + p))) (ad := ad) (fun m a b => an m (by omega) (by omega)), up_ne _ _ c1, up_ne _ _ c2]
              by_cases d : j < 6
              · rw [if_pos d, if_pos d]
                congr 1
                rcases (by omega : j = 0 ∨ j = 2 ∨ j = 3 ∨ j = 4 ∨ j = 5) with rfl | rfl | rfl | rfl | rfl
                · show (5, oH ad) = (5, oH _)
                  unfold oH; rw [an 1 (by omega) (by omega), an 2 (by omega) (by omega)]
                · show (0, oD ad S) = (0, oD _ S)
                  unfold oD; rw [an 1 (by omega) (by omega), an 4 (by omega) (by omega), an 3 (by omega) (by omega), an 5 (by omega) (by omega), an 37 (by omega) (by omega), an 38 (by omega) (by omega), an 39 (by omega) (by omega), an 40 (by omega) (by omega)]
                · show (1, oG ad) = (1, oG _)
                  unfold oG; rw [an 1 (by omega) (by omega), an 4 (by omega) (by omega), an 30 (by omega) (by omega), an 31 (by omega) (by omega), an 32 (by omega) (by omega), an 41 (by omega) (by omega), an 33 (by omega) (by omega), an 34 (by omega) (by omega), an 35 (by omega) (by omega), an 36 (by omega) (by omega)]
                · show (3, oN ad S) = (3, oN _ S)
                  unfold oN; rw [an 7 (by omega) (by omega), an 8 (by omega) (by omega), an 68 (by omega) (by omega), an 9 (by omega) (by omega), an 10 (by omega) (by omega), an 11 (by omega) (by omega), an 12 (by omega) (by omega), an 13 (by omega) (by omega)]
                · show (4, oT ad S) = (4, oT _ S)
                  unfold oT; rw [an 4 (by omega) (by omega), an 24 (by omega) (by omega), an 25 (by omega) (by omega), an 26 (by omega) (by omega), an 27 (by omega) (by omega), an 28 (by omega) (by omega), an 29 (by omega) (by omega)]
              · rw [if_neg d, if_neg d]
                by_cases f : j < 41
                · rw [if_pos f, if_pos f]
                · rw [if_neg f, if_neg f]
                  by_cases f2 : j < 67
                  · rw [if_pos f2, if_pos f2]
                  · rw [if_neg f2, if_neg f2, if_neg c4, if_neg c4]
    · have key : ∀ a b : Nat, a < 69 → b < 69 → ad a = ad b → a = b := fun a b ha hb => h2 a b ha hb
      by_cases c1 : j = 66 <;> by_cases d1 : k = 66 <;> by_cases c2 : j = 42 + p <;> by_cases d2 : k = 42 + p
      all_goals first
        | omega
        | (rw [an j c1 c2, an k d1 d2] at q; exact key j k hj hk q)
        | (subst c1; rw [a66, an k d1 d2] at q; have := key _ _ (by omega) hk q; omega)
        | (subst d1; rw [a66, an j c1 c2] at q; have := key _ _ hj (by omega) q; omega)
        | (subst c2; rw [ap, an k d1 d2] at q; have := key _ _ (by omega) hk q; omega)
        | (subst d2; rw [ap, an j c1 c2] at q; have := key _ _ hj (by omega) q; omega)
        | (subst c1; subst d2; rw [a66, ap] at q; have := key _ _ (by omega) (by omega) q; omega)
        | (subst d1; subst c2; rw [a66, ap] at q; have := key _ _ (by omega) (by omega) q; omega)
    · by_cases c1 : j = 66
      · subst c1; rw [a66]; exact h3 _ (by omega)
      · by_cases c2 : j = 42 + p
        · subst c2; rw [ap]; exact h3 _ (by omega)
        · rw [an j c1 c2]; exact h3 j hj
    · rw [up _ (fun q2 => (h3 1 (by omega)).2 (q2 ▸ hq)) (fun q2 => (h3 67 (by omega)).2 (q2 ▸ hq))]
      exact (h4 q hq).2
end VCg
