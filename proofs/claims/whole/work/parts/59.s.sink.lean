/-! sinking by trial: the order, what is lower, chains -/
/-- a function of what comes behind the first c of r, without x -/
def lowr (x : Nat) (r : Nat → Nat) (c : Nat) (f : Fn) : Prop := ¬ dep f x ∧ ∀ j : Nat, j < c → ¬ dep f (r j)
theorem lowr.cof {x : Nat} {r : Nat → Nat} {c : Nat} {f : Fn} (h : lowr x r c f) (k : Nat) (b : Bool) : lowr x r c (cof k b f) := ⟨fun q => h.1 (cof_dep q), fun j hj q => h.2 j hj (cof_dep q)⟩
theorem ins_sw (r : Nat → Nat) (x : Nat) {c : Nat} (hc : c < 9) : SW (insO r c x) (insO r (c + 1) x) c := by
  refine ⟨hc, ?_, ?_, fun j h1 h2 => ?_⟩
  · unfold insO
    rw [if_pos (by omega), if_neg (by omega), if_neg (by omega)]
    congr 1
  · unfold insO
    rw [if_neg (by omega), if_pos rfl, if_neg (by omega), if_pos rfl]
  · unfold insO
    by_cases a : j < c
    · rw [if_pos (by omega), if_pos a]
    · rw [if_neg (by omega), if_neg (by omega), if_neg a, if_neg h1]
theorem ins_lt (r : Nat → Nat) (x : Nat) {c j : Nat} (h : j < c) : insO r c x j = r j := if_pos h
theorem ins_s (r : Nat → Nat) (x c : Nat) : insO r c x (c + 1) = r c := by
  unfold insO
  rw [if_neg (by omega), if_neg (by omega)]
  congr 1
/-- each input is x or one of r -/
theorem PR9.sur {r : Nat → Nat} {x : Nat} (h : PR9 r x) (hx : x < 10) {k : Nat} (hk : k < 10) (hn : k ≠ x) : ∃ j : Nat, j < 9 ∧ r j = k := by
  have hp : PO (insO r 9 x) := insO_PO h hx (by omega)
  obtain ⟨i, hi, e⟩ := hp.sur hk
  by_cases c : i < 9
  · exact ⟨i, c, by rw [← e, ins_lt r x c]⟩
  · have : i = 9 := by omega
    subst this
    rw [insO_at] at e
    exact absurd e.symm hn
/-- the place of what a node of x leads to first -/
def mpl (P gt : Nat → Nat) (n : Nat) : Nat := if P (kd gt (n1 (gt n))) ≤ P (kd gt (n0 (gt n))) then P (kd gt (n1 (gt n))) else P (kd gt (n0 (gt n)))
def CHN (x c : Nat) (gt gg : Nat → Nat) (I : Nat → Nat → Nat) : Prop := ∀ i : Nat, c ≤ i → i < 9 → ∃ l : List Nat, chn (I 27) (I 28 i) l ∧ l.Nodup ∧ ∀ n : Nat, n ∈ l ↔ gg n ≠ 0 ∧ nk (gg n) = x ∧ mpl (I 29) gt n = i
def PLC (r : Nat → Nat) (pl : Nat) (P : Nat → Nat) : Prop := (∀ j : Nat, pl ≤ j → j < 9 → P (r j) = j) ∧ P 10 = 10
section SNK
variable {ad S : Nat → Nat} {I : Nat → Nat → Nat} {ln : Nat → Nat} {L : Nat → Nat → Int64} {E : (Nat → Prop) × (Nat → Option PE)} {z R : Nat × Nat} {u : PS} {e f0 : Nat} {g gt gg rt xt : Nat → Nat} {D : Nat → Fn} {o r : Nat → Nat} {x pl c : Nat}
theorem kd_lt {W : Nat → Fn → Prop} (h : CAN W gt D) {q : Nat} (hq : IN gt q) : kd gt q < 11 := by
  unfold kd
  split
  · omega
  · rcases hq with w | w
    · omega
    · have := h.k w; omega
/-- where a lower node is asked -/
theorem kd_low {W : Nat → Fn → Prop} (h : CAN W gt D) (hr : PR9 r x) (hx : x < 10) (hp : PLC r pl (I 29)) (hc : pl ≤ c) {q : Nat} (hq : IN gt q) (hl : lowr x r c (D q)) : (q < 2 ∧ I 29 (kd gt q) = 10) ∨ ∃ j : Nat, c ≤ j ∧ j < 9 ∧ kd gt q = r j ∧ I 29 (kd gt q) = j := by
  rcases hq with w | w
  · left
    have e1 : kd gt q = 10 := if_pos w
    exact ⟨w, by rw [e1]; exact hp.2⟩
  · right
    have e1 := kd_of h w
    have hd := h.dp w
    have hkx : nk (gt q) ≠ x := fun e2 => hl.1 (by rw [← e2]; exact hd)
    obtain ⟨j, hj, ej⟩ := hr.sur hx (h.k w) hkx
    have hcj : c ≤ j := Classical.byContradiction (fun q2 => hl.2 j (by omega) (by rw [ej]; exact hd))
    refine ⟨j, hcj, hj, by rw [e1, ej], ?_⟩
    rw [e1, ← ej]
    exact hp.1 j (by omega) hj
theorem TM.cg (tm : TM e f0 g gt S I ln) {q : Nat} (hq : IN gt q) : I 7 q = cgc gt q ∧ cgc gt q < 2 ^ 32 ∧ q < S 9 := by
  obtain ⟨d1, d2, d3, ⟨d4, d5, d6⟩, d7, d8, d9, d10, d11, d12, d13, d14⟩ := tm
  by_cases c : q < 2
  · rw [show cgc gt q = 2684354560 from if_pos c]
    refine ⟨?_, by decide, by omega⟩
    rcases (by omega : q = 0 ∨ q = 1) with rfl | rfl
    · exact d2.1
    · exact d2.2
  · have w := d9 q (hq.resolve_left c)
    rw [cg_lt (by omega)]
    exact ⟨w.2.2.2, w.2.2.1, w.2.1⟩
/-- a node of x comes into its chain -/
theorem q_T_link {W : Nat → Fn → Prop} (h : VC 69 ad S I ln L E z u) (sh : SH R S ln z e) (ts : TSH ln e) (tm : TM e f0 g gt S I ln) (hc : CAN W gt D) {m a b : Nat} (hm : m < 2 ^ e) (ha : IN gt a) (hb : IN gt b) (pa : I 29 (kd gt a) < 11) (pb : I 29 (kd gt b) < 11)
    {Q : PS → Prop} (hQ : ∀ (u' : PS) (hh : Nat), hh = (if I 29 (kd gt b) ≤ I 29 (kd gt a) then I 29 (kd gt b) else I 29 (kd gt a)) → VC 69 ad S (va_up (va_up I 27 (va_up (I 27) m (I 28 hh))) 28 (va_up (I 28) hh m)) ln L E z u' → Q u') : p_T_link (ad 5) (nI m) (nI a) (nI b) u Q := by
  have hle := sh.le
  obtain ⟨a1, a2, a3⟩ := tm.cg ha
  obtain ⟨b1, b2, b3⟩ := tm.cg hb
  have s9 : S 9 ≤ 2 ^ e := tm.2.2.2.1.2.2
  have ka := kd_lt hc ha
  have kb := kd_lt hc hb
  have l28 : ln 28 = 11 := ts.2.2.2.2.2.1
  have l29 : ln 29 = 11 := ts.2.2.2.2.2.2
  have ra := h.nia sh 7 n7 (j := a) (by omega)
  have rb := h.nia sh 7 n7 (j := b) (by omega)
  rw [a1] at ra
  rw [b1] at rb
  have ya := h.ia 29 (by decide) (ii (by decide)) (j := kd gt a) (by omega) (by omega)
  have yb := h.ia 29 (by decide) (ii (by decide)) (j := kd gt b) (by omega) (by omega)
  have J : ∀ hh : Nat, hh < 11 → hh = (if I 29 (kd gt b) ≤ I 29 (kd gt a) then I 29 (kd gt b) else I 29 (kd gt a)) → p_T_link_J52 Q (ad 5) (nI m) (nI hh) u := by
    intro hh h11 eh
    unfold p_T_link_J52
    have r28 := h.ia 28 (by decide) (ii (by decide)) (j := hh) (by omega) (by omega)
    obtain ⟨u1, s1, h1⟩ := h.tis ts hle 27 t27 hm (I 28 hh)
    refine ⟨_, h.fT (by decide) rfl, _, h.fT (by decide) rfl, _, r28, u1, s1, _, h1.fT (by decide) rfl, ?_⟩
    obtain ⟨u2, s2, h2⟩ := h1.isx 28 (by decide) (ii (by decide)) (j := hh) (by omega) (by omega) m
    exact ⟨u2, s2, hQ u2 hh eh h2⟩
  unfold p_T_link
  refine ⟨_, h.fT (by decide) rfl, _, h.fT (by decide) rfl, _, h.fN (by decide) rfl, _, ra, ?_⟩
  rw [nI_nk a2, nk_cg]
  refine ⟨_, ya, _, h.fT (by decide) rfl, _, h.fT (by decide) rfl, _, h.fN (by decide) rfl, _, rb, ?_⟩
  rw [nI_nk b2, nk_cg]
  refine ⟨_, yb, pk_le (I 29 (kd gt b)) (I 29 (kd gt a)) (fun q => J _ pb (by rw [if_pos q])) (fun q => J _ pa (by rw [if_neg (by omega)]))⟩
end SNK
