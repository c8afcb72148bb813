/-! room for more numbers -/
def ext (f : Nat → Nat) (N : Nat) : Nat → Nat := fun k => if k < N then f k else 0
theorem ext_lt {f : Nat → Nat} {N k : Nat} (h : k < N) : ext f N k = f k := if_pos h
theorem ext_ge {f : Nat → Nat} {N k : Nat} (h : N ≤ k) : ext f N k = 0 := if_neg (by omega)
theorem ext_cpy (f : Nat → Nat) (N : Nat) : va_cpy f (fun _ => 0) 0 0 N = ext f N := by
  funext k
  unfold va_cpy ext
  by_cases c : k < N
  · rw [if_pos (by omega), if_pos c]; congr 1; omega
  · rw [if_neg (by omega), if_neg c]
/-- the d numbers from f0 on are the first of their chains, the last one first -/
def UW (e : Nat) (nx gt : Nat → Nat) (f0 : Nat) : Nat → (Nat → Nat) → Prop
  | 0, hd => HT e nx hd (fun m => 2 ≤ m ∧ m < f0 ∧ gt m ≠ 0) gt
  | d + 1, hd => hd (hsx e (gt (f0 + d))) = f0 + d ∧ UW e nx gt f0 d (va_up hd (hsx e (gt (f0 + d))) (nx (f0 + d)))
theorem UW.congr {e : Nat} {nx nx' gt gt' : Nat → Nat} {f0 : Nat} (hf : 2 ≤ f0) : ∀ (d : Nat) (hd : Nat → Nat), (∀ n : Nat, 2 ≤ n → n < f0 + d → nx' n = nx n ∧ gt' n = gt n) → UW e nx gt f0 d hd → UW e nx' gt' f0 d hd := by
  intro d
  induction d with
  | zero =>
    intro hd hh h
    refine HT.congr h (fun m => ?_) (fun m hm => (hh m hm.1 (by omega)).2) (fun m hm => (hh m hm.1 (by omega)).1)
    constructor
    · rintro ⟨a, b, c⟩; exact ⟨a, b, by rw [(hh m a (by omega)).2] at c; exact c⟩
    · rintro ⟨a, b, c⟩; exact ⟨a, b, by rw [(hh m a (by omega)).2]; exact c⟩
  | succ d ih =>
    intro hd hh h
    unfold UW at h ⊢
    rw [(hh (f0 + d) (by omega) (by omega)).1, (hh (f0 + d) (by omega) (by omega)).2]
    exact ⟨h.1, ih _ (fun n h2 hn => hh n h2 (by omega)) h.2⟩
theorem UW.push {e : Nat} {nx gt gt' : Nat → Nat} {f0 d : Nat} {hd : Nat → Nat} (hf : 2 ≤ f0) (h : UW e nx gt f0 d hd) (hg : ∀ n : Nat, n < f0 + d → gt' n = gt n) : UW e (va_up nx (f0 + d) (hd (hsx e (gt' (f0 + d))))) gt' f0 (d + 1) (va_up hd (hsx e (gt' (f0 + d))) (f0 + d)) := by
  unfold UW
  refine ⟨up_eq _ _ _, ?_⟩
  rw [up_eq, bx_uu, up_id]
  exact UW.congr hf d hd (fun n _ hn => ⟨up_ne _ _ (by omega), hg n hn⟩) h
section ROOM
variable {ad S : Nat → Nat} {I : Nat → Nat → Nat} {ln : Nat → Nat} {L : Nat → Nat → Int64} {E : (Nat → Prop) × (Nat → Option PE)} {z R : Nat × Nat} {u : PS} {e : Nat}
/-- a longer row takes the place of a field's -/
theorem q_grow (h : VC 69 ad S I ln L E z u) {i c k ci m : Nat} (hi : 6 ≤ i ∧ i < 41) (hmb : i < 14 ∨ 24 ≤ i) (hc : c < 6) (hci : ∀ ad : Nat → Nat, (cO ad S c).1 = ci) (hk : ∀ ad : Nat → Nat, k < (cO ad S c).2.length) (hO : ∀ (ad : Nat → Nat) (a : Nat), (cO (va_up ad i a) S c).2 = (cO ad S c).2.set k (.ref a)) (hX : ∀ (ad : Nat → Nat) (a j : Nat), j < 6 → j ≠ c → cO (va_up ad i a) S j = cO ad S j) (hm : ln i ≤ m) (hm2 : m ≤ 65536) {Q : PS → Prop} (hQ : ∀ u' : PS, VC 69 (va_up ad i z.1) S (va_up I i (ext (I i) (ln i))) (va_up ln i m) L E (z.1 + 1, z.2 + m) u' → Q u') : p_N_lengthened (ad i) (nI m) u (fun r u1 => ∃ u2 : PS, x_pv u1 (ad c) ci k (.ref r) u2 ∧ Q u2) := by
  unfold p_N_lengthened
  obtain ⟨u1, s1, h1⟩ := h.new m (by omega)
  have ai : va_up ad 69 z.1 i = ad i := up_ne _ _ (by omega)
  have li : va_up ln 69 m i = ln i := up_ne _ _ (by omega)
  have Ii : va_up I 69 (fun _ => 0) i = I i := up_ne _ _ (by omega)
  have ac : va_up ad 69 z.1 c = ad c := up_ne _ _ (by omega)
  refine ⟨z.1, u1, s1, nI (ln i), ?_, ?_⟩
  · have := h1.an i (by omega) (ii hi)
    rw [ai, li] at this
    exact this
  · obtain ⟨u2, s2, h2⟩ := h1.cpx (i := i) (j := 69) (s := 0) (d := 0) (m := ln i) (by omega) (ii hi) (by omega) (Or.inr (by omega)) (by rw [li]; omega) (by rw [up_eq]; omega) (by rw [li]; omega) (by rw [up_eq]; omega)
    rw [ai, up_eq] at s2
    refine ⟨u2, s2, ?_⟩
    rw [Ii, up_eq, ext_cpy, bx_uu] at h2
    obtain ⟨u3, s3, h3⟩ := h2.renO (i := i) (c := c) (k := k) (ci := ci) hi hmb hc (by rw [← hci (va_up ad 69 z.1)]) (hk _) (by rw [← hO (va_up ad 69 z.1), ← hci (va_up (va_up ad 69 z.1) i (va_up ad 69 z.1 69))]) (fun j hj hne => hX _ _ j hj hne)
    rw [ac, up_eq] at s3
    refine ⟨u3, s3, hQ u3 ?_⟩
    rw [up_eq, up_eq, up_eq] at h3
    refine h3.ext (fun j hj => ?_)
    by_cases q : j = i
    · subst q; rw [up_eq, up_eq, up_eq, up_eq, up_eq, up_eq]; exact ⟨rfl, rfl, rfl⟩
    · rw [up_ne _ _ q, up_ne _ _ q, up_ne _ _ q, up_ne _ _ q, up_ne _ _ q, up_ne _ _ q, up_ne _ _ (show j ≠ 69 by omega), up_ne _ _ (show j ≠ 69 by omega), up_ne _ _ (show j ≠ 69 by omega)]
      exact ⟨rfl, rfl, rfl⟩
/-- an empty row takes the place of a field's -/
theorem q_fresh (h : VC 69 ad S I ln L E z u) {i c k ci m : Nat} (hi : 6 ≤ i ∧ i < 41) (hmb : i < 14 ∨ 24 ≤ i) (hc : c < 6) (hci : ∀ ad : Nat → Nat, (cO ad S c).1 = ci) (hk : ∀ ad : Nat → Nat, k < (cO ad S c).2.length) (hO : ∀ (ad : Nat → Nat) (a : Nat), (cO (va_up ad i a) S c).2 = (cO ad S c).2.set k (.ref a)) (hX : ∀ (ad : Nat → Nat) (a j : Nat), j < 6 → j ≠ c → cO (va_up ad i a) S j = cO ad S j) (hm2 : m ≤ 65536) {Q : PS → Prop} (hQ : ∀ u' : PS, VC 69 (va_up ad i z.1) S (va_up I i (fun _ => 0)) (va_up ln i m) L E (z.1 + 1, z.2 + m) u' → Q u') : ∃ (a : Nat) (u1 : PS), x_ni u (nI m) a u1 ∧ ∃ u2 : PS, x_pv u1 (ad c) ci k (.ref a) u2 ∧ Q u2 := by
  obtain ⟨u1, s1, h1⟩ := h.new m (by omega)
  have ac : va_up ad 69 z.1 c = ad c := up_ne _ _ (by omega)
  refine ⟨z.1, u1, s1, ?_⟩
  obtain ⟨u3, s3, h3⟩ := h1.renO (i := i) (c := c) (k := k) (ci := ci) hi hmb hc (by rw [← hci (va_up ad 69 z.1)]) (hk _) (by rw [← hO (va_up ad 69 z.1), ← hci (va_up (va_up ad 69 z.1) i (va_up ad 69 z.1 69))]) (fun j hj hne => hX _ _ j hj hne)
  rw [ac, up_eq] at s3
  refine ⟨u3, s3, hQ u3 ?_⟩
  rw [up_eq, up_eq, up_eq] at h3
  refine h3.ext (fun j hj => ?_)
  by_cases q : j = i
  · subst q; rw [up_eq, up_eq, up_eq, up_eq, up_eq, up_eq]; exact ⟨rfl, rfl, rfl⟩
  · rw [up_ne _ _ q, up_ne _ _ q, up_ne _ _ q, up_ne _ _ q, up_ne _ _ q, up_ne _ _ q, up_ne _ _ (show j ≠ 69 by omega), up_ne _ _ (show j ≠ 69 by omega), up_ne _ _ (show j ≠ 69 by omega)]
    exact ⟨rfl, rfl, rfl⟩
theorem q_N_mr_L {N : Nat} (hN : N ≤ 16384) {X : Int32 → PS → Prop} : ∀ (d e : Nat), e + d = 14 → (∀ e' : Nat, e ≤ e' → e' ≤ 14 → N ≤ 2 ^ e' → X (nI (2 ^ e')) u) → p_N_makeRoomFor_L12 (ad 4) (nI N) X (d + 1) (nI (2 ^ e)) u := by
  intro d
  induction d with
  | zero =>
    intro e he hX
    obtain rfl : e = 14 := by omega
    rw [p_N_makeRoomFor_L12]
    exact pk_le N 16384 (fun _ => hX 14 (Nat.le_refl _) (Nat.le_refl _) hN) (fun w => absurd w (by omega))
  | succ d ih =>
    intro e he hX
    have hp : 2 ^ e < 16384 := Nat.pow_lt_pow_right (a := 2) (n := 14) (by omega) (by omega)
    rw [p_N_makeRoomFor_L12]
    refine pk_le N (2 ^ e) (fun w => hX e (Nat.le_refl _) (by omega) w) (fun w => ?_)
    refine pk_le 16384 (2 ^ e) (fun w => absurd w (by omega)) (fun _ => nm_e ?_)
    rw [show (2 : Int32) = nI 2 from rfl, pk_mul, ← Nat.pow_succ]
    exact ih (e + 1) (by omega) (fun e' a b c => hX e' (by omega) b c)
theorem q_N_relink (sh : SH R S ln z e) {nx0 : Nat → Nat} {f0 : Nat} (hf2 : 2 ≤ f0) (hf9 : f0 ≤ S 9) (hfz : ∀ n : Nat, f0 ≤ n → n < S 9 → I 7 n ≠ 0) (h9 : S 9 ≤ 2 ^ e) (hw : ∀ n : Nat, n < S 9 → I 7 n < 2 ^ 32) {X : PS → Prop} (hX : ∀ (u' : PS) (nx hd : Nat → Nat), VC 69 ad S (va_up (va_up I 11 nx) 12 hd) ln L E z u' → HT e nx hd (fun m => 2 ≤ m ∧ m < S 9 ∧ I 7 m ≠ 0) (I 7) → (∀ m : Nat, I 7 m = 0 ∨ S 9 ≤ m ∨ m < 2 → nx m = nx0 m) → UW e nx (I 7) f0 (S 9 - f0) hd → X u') : ∀ (d n : Nat) (u : PS) (nx hd : Nat → Nat), n + d = S 9 → 2 ≤ n → VC 69 ad S (va_up (va_up I 11 nx) 12 hd) ln L E z u → HT e nx hd (fun m => 2 ≤ m ∧ m < n ∧ I 7 m ≠ 0) (I 7) → (∀ m : Nat, I 7 m = 0 ∨ S 9 ≤ m ∨ m < 2 → nx m = nx0 m) → (f0 ≤ n → UW e nx (I 7) f0 (n - f0) hd) → p_N_makeRoomFor_L111 (ad 4) X (d + 1) (nI n) u := by
  have hle := sh.le
  intro d
  induction d with
  | zero =>
    intro n u nx hd hn h2 h ht hx hu
    obtain rfl : n = S 9 := by omega
    rw [p_N_makeRoomFor_L111]
    exact ⟨_, h.fN (by decide) rfl, pk_le (S 9) (S 9) (fun _ => hX u nx hd h ht hx (hu hf9)) (fun w => absurd w (by omega))⟩
  | succ d ih =>
    intro n u nx hd hn h2 h ht hx hu
    rw [p_N_makeRoomFor_L111]
    refine ⟨_, h.fN (by decide) rfl, pk_le (S 9) n (fun w => absurd w (by omega)) (fun _ => ?_)⟩
    have r7 := h.nia sh 7 n7 (j := n) (by omega)
    refine ⟨_, h.fN (by decide) rfl, _, r7, ?_⟩
    have g7 : va_up (va_up I 11 nx) 12 hd 7 = I 7 := rfl
    have g11 : va_up (va_up I 11 nx) 12 hd 11 = nx := rfl
    have g12 : va_up (va_up I 11 nx) 12 hd 12 = hd := rfl
    rw [g7]
    refine ⟨fun w => ?_, fun w => ?_⟩
    · have w0 := (nI_0I (hw n (by omega))).mp w
      unfold p_N_makeRoomFor_J133
      refine nm_e ?_
      rw [nI_1]
      have ht' : HT e nx hd (fun m => 2 ≤ m ∧ m < n + 1 ∧ I 7 m ≠ 0) (I 7) := by
        refine ht.congr (fun m => ⟨fun q => ⟨q.1, ?_, q.2.2⟩, fun q => ⟨q.1, by omega, q.2.2⟩⟩) (fun _ _ => rfl) (fun _ _ => rfl)
        have : m ≠ n := fun c => q.2.2 (by rw [c]; exact w0)
        omega
      refine ih (n + 1) u nx hd (by omega) (by omega) h ht' hx (fun q => ?_)
      have : n + 1 = f0 := by
        refine Classical.byContradiction (fun c => ?_)
        exact hfz n (by omega) (by omega) w0
      subst this
      rw [Nat.sub_self]
      exact ht'
    · have w0 : I 7 n ≠ 0 := fun c => w (by rw [c]; rfl)
      refine ⟨h.obN (by decide), q_N_link h sh (by omega) (fun u1 h1 => ?_)⟩
      rw [g7, g11, g12] at h1
      unfold p_N_makeRoomFor_J133
      refine nm_e ?_
      rw [nI_1]
      have e1 : va_up (va_up (va_up (va_up I 11 nx) 12 hd) 11 (va_up nx n (hd (hsx e (I 7 n))))) 12 (va_up hd (hsx e (I 7 n)) n) = va_up (va_up I 11 (va_up nx n (hd (hsx e (I 7 n))))) 12 (va_up hd (hsx e (I 7 n)) n) := by
        funext j
        by_cases c1 : j = 12
        · subst c1; rw [up_eq, up_eq]
        · rw [up_ne _ _ c1, up_ne _ _ c1]
          by_cases c2 : j = 11
          · subst c2; rw [up_eq, up_eq]
          · rw [up_ne _ _ c2, up_ne _ _ c2, up_ne _ _ c1, up_ne _ _ c2]
      rw [e1] at h1
      have ht' : HT e (va_up nx n (hd (hsx e (I 7 n)))) (va_up hd (hsx e (I 7 n)) n) (fun m => 2 ≤ m ∧ m < n + 1 ∧ I 7 m ≠ 0) (I 7) := by
        refine ht.link (n := n) (fun q => by omega) (by omega) (fun m => ?_) (fun _ _ => rfl)
        constructor
        · intro q
          by_cases c : m = n
          · exact Or.inr c
          · exact Or.inl ⟨q.1, by omega, q.2.2⟩
        · rintro (q | rfl)
          · exact ⟨q.1, by omega, q.2.2⟩
          · exact ⟨h2, by omega, w0⟩
      refine ih (n + 1) u1 _ _ (by omega) (by omega) h1 ht' (fun m hm => ?_) (fun q => ?_)
      · rw [up_ne _ _ (fun c => by
          subst c
          rcases hm with q | q | q
          · exact w0 q
          · omega
          · omega)]
        exact hx m hm
      · by_cases c : f0 ≤ n
        · have hp := UW.push (gt' := I 7) hf2 (hu c) (fun _ _ => rfl)
          rw [show f0 + (n - f0) = n by omega] at hp
          rw [show n + 1 - f0 = n - f0 + 1 by omega]
          exact hp
        · have : n + 1 = f0 := by omega
          subst this
          rw [Nat.sub_self]
          exact ht'
theorem q_growN (h : VC 69 ad S I ln L E z u) {i k m : Nat} (hik : (i = 7 ∧ k = 0) ∨ (i = 8 ∧ k = 1) ∨ (i = 10 ∧ k = 4) ∨ (i = 11 ∧ k = 5) ∨ (i = 13 ∧ k = 11)) (hm : ln i ≤ m) (hm2 : m ≤ 65536) {Q : PS → Prop} (hQ : ∀ u' : PS, VC 69 (va_up ad i z.1) S (va_up I i (ext (I i) (ln i))) (va_up ln i m) L E (z.1 + 1, z.2 + m) u' → Q u') : p_N_lengthened (ad i) (nI m) u (fun r u1 => ∃ u2 : PS, x_pv u1 (ad 4) 3 k (.ref r) u2 ∧ Q u2) := by
  rcases hik with ⟨rfl, rfl⟩ | ⟨rfl, rfl⟩ | ⟨rfl, rfl⟩ | ⟨rfl, rfl⟩ | ⟨rfl, rfl⟩ <;>
    exact q_grow h (by decide) (by decide) (by decide) (fun _ => rfl) (fun _ => by show _ < 13; decide) (fun _ _ => rfl) (fun _ _ => six (fun _ => rfl) (fun _ => rfl) (fun _ => rfl) (fun _ => rfl) (fun w => absurd rfl w) (fun _ => rfl)) hm hm2 hQ
theorem q_N_makeRoomFor (h : VC 69 ad S I ln L E z u) (sh : SH R S ln z e) {N : Nat} (hN : N ≤ 16384) {f0 : Nat} (hf2 : 2 ≤ f0) (hf9 : f0 ≤ S 9) (hfz : ∀ n : Nat, f0 ≤ n → n < S 9 → I 7 n ≠ 0) (h9 : S 9 ≤ 2 ^ e) (hw : ∀ n : Nat, n < S 9 → I 7 n < 2 ^ 32) {Q : PS → Prop} (hQ1 : N ≤ 2 ^ e → Q u)
    (hQ2 : ∀ (u' : PS) (e' : Nat) (ad' S' : Nat → Nat) (I' : Nat → Nat → Nat) (ln' : Nat → Nat) (z' : Nat × Nat), e < e' → N ≤ 2 ^ e' → VC 69 ad' S' I' ln' L E z' u' → SH R S' ln' z' e' → S' = va_up S 7 (32 - e') → (∀ i : Nat, ¬ isN i → ad' i = ad i ∧ I' i = I i ∧ ln' i = ln i) → I' 7 = ext (I 7) (2 ^ e) → I' 8 = ext (I 8) (2 ^ e) → I' 10 = ext (I 10) (2 ^ e) → I' 13 = ext (I 13) (2 ^ e) → (∀ m : Nat, m < 2 ^ e → I 7 m = 0 ∨ S 9 ≤ m ∨ m < 2 → I' 11 m = I 11 m) → HT e' (I' 11) (I' 12) (fun m => 2 ≤ m ∧ m < S 9 ∧ I 7 m ≠ 0) (I 7) → UW e' (I' 11) (I' 7) f0 (S 9 - f0) (I' 12) → Q u') : p_N_makeRoomFor (ad 4) (nI N) u Q := by
  have hle := sh.le
  have an := h.an 7 (by decide) (ii (by decide))
  rw [sh.len n7] at an
  unfold p_N_makeRoomFor
  refine ⟨_, h.fN (by decide) rfl, _, an, pk_lt (2 ^ e) N (fun a => ⟨14 - e + 1, q_N_mr_L hN (14 - e) e (by have := sh.2.1; omega) (fun e' a1 a2 a3 => ?_)⟩) (fun a => hQ1 a)⟩
  have hee : e < e' := by
    refine Classical.byContradiction (fun c => ?_)
    have := Nat.pow_le_pow_right (n := 2) (by decide) (show e' ≤ e by omega)
    omega
  have hp2 : 2 * 2 ^ e ≤ 2 ^ e' := by
    have := Nat.pow_le_pow_right (n := 2) (by decide) (show e + 1 ≤ e' by omega)
    rw [Nat.pow_succ] at this
    omega
  have hp14 : 2 ^ e' ≤ 16384 := Nat.pow_le_pow_right (n := 2) (j := 14) (by omega) a2
  obtain ⟨t1, t2, ⟨b1, b2, b3, b4, b5, b6, b7⟩, t4, t5, t6, t7⟩ := sh
  unfold p_N_makeRoomFor_J31
  refine ⟨_, h.fN (by decide) rfl, q_growN h (i := 7) (k := 0) (by decide) (by omega) (by omega) (fun u1 h1 => ?_)⟩
  refine ⟨_, h1.fN (by decide) rfl, q_growN h1 (i := 8) (k := 1) (by decide) (show ln 8 ≤ _ by omega) (by omega) (fun u2 h2 => ?_)⟩
  refine ⟨_, h2.fN (by decide) rfl, q_growN h2 (i := 10) (k := 4) (by decide) (show ln 10 ≤ _ by omega) (by omega) (fun u3 h3 => ?_)⟩
  refine ⟨_, h3.fN (by decide) rfl, q_growN h3 (i := 11) (k := 5) (by decide) (show ln 11 ≤ _ by omega) (by omega) (fun u4 h4 => ?_)⟩
  refine ⟨_, h4.fN (by decide) rfl, q_growN h4 (i := 13) (k := 11) (by decide) (show ln 13 ≤ _ by omega) (by omega) (fun u5 h5 => ?_)⟩
  refine q_fresh h5 (i := 12) (c := 4) (k := 6) (ci := 3) (by decide) (by decide) (by decide) (fun _ => rfl) (fun _ => by show _ < 13; decide) (fun _ _ => rfl) (fun _ _ => six (fun _ => rfl) (fun _ => rfl) (fun _ => rfl) (fun _ => rfl) (fun w => absurd rfl w) (fun _ => rfl)) (by omega) (fun u6 h6 => ?_)
  refine q_ntz (LB.pw e') (by omega) ?_
  rw [show (32 : Int32) = nI 32 from rfl, pk_sub (by omega)]
  obtain ⟨u7, s7, h7⟩ := h6.sN (by decide) 7 7 (32 - e') (by decide) rfl rfl rfl rfl
  refine ⟨u7, s7, ?_⟩
  generalize hA : va_up (va_up (va_up (va_up (va_up (va_up ad 7 _) 8 _) 10 _) 11 _) 13 _) 12 _ = A at h7
  generalize hJ : va_up (va_up (va_up (va_up (va_up (va_up I 7 _) 8 _) 10 _) 11 _) 13 _) 12 _ = J at h7
  generalize hM : va_up (va_up (va_up (va_up (va_up (va_up ln 7 _) 8 _) 10 _) 11 _) 13 _) 12 _ = M at h7
  have J7 : J 7 = ext (I 7) (2 ^ e) := by rw [← hJ, ← b1]; rfl
  have J8 : J 8 = ext (I 8) (2 ^ e) := by rw [← hJ, ← b2]; rfl
  have J10 : J 10 = ext (I 10) (2 ^ e) := by rw [← hJ, ← b4]; rfl
  have J11 : J 11 = ext (I 11) (2 ^ e) := by rw [← hJ, ← b5]; rfl
  have J13 : J 13 = ext (I 13) (2 ^ e) := by rw [← hJ, ← b7]; rfl
  have J12 : J 12 = fun _ => 0 := by rw [← hJ]; rfl
  have oth : ∀ i : Nat, ¬ isN i → A i = ad i ∧ J i = I i ∧ M i = ln i := fun i hi => by
    have q7 : i ≠ 7 := fun c => hi (Or.inl c)
    have q8 : i ≠ 8 := fun c => hi (Or.inr (Or.inl c))
    have q10 : i ≠ 10 := fun c => hi (Or.inr (Or.inr (Or.inl c)))
    have q11 : i ≠ 11 := fun c => hi (Or.inr (Or.inr (Or.inr (Or.inl c))))
    have q12 : i ≠ 12 := fun c => hi (Or.inr (Or.inr (Or.inr (Or.inr (Or.inl c)))))
    have q13 : i ≠ 13 := fun c => hi (Or.inr (Or.inr (Or.inr (Or.inr (Or.inr c)))))
    rw [← hA, ← hJ, ← hM]
    refine ⟨?_, ?_, ?_⟩
    · rw [up_ne _ _ q12, up_ne _ _ q13, up_ne _ _ q11, up_ne _ _ q10, up_ne _ _ q8, up_ne _ _ q7]
    · rw [up_ne _ _ q12, up_ne _ _ q13, up_ne _ _ q11, up_ne _ _ q10, up_ne _ _ q8, up_ne _ _ q7]
    · rw [up_ne _ _ q12, up_ne _ _ q13, up_ne _ _ q11, up_ne _ _ q10, up_ne _ _ q8, up_ne _ _ q7]
  have nN : ∀ i : Nat, (i < 7 ∨ i = 9 ∨ 14 ≤ i) → ¬ isN i := fun i hi c => by rcases c with c | c | c | c | c | c <;> omega
  have M7 : M 7 = 2 ^ e' := by rw [← hM]; rfl
  have M8 : M 8 = 2 ^ e' := by rw [← hM]; rfl
  have M10 : M 10 = 2 ^ e' := by rw [← hM]; rfl
  have M11 : M 11 = 2 ^ e' := by rw [← hM]; rfl
  have M12 : M 12 = 2 ^ e' := by rw [← hM]; rfl
  have M13 : M 13 = 2 ^ e' := by rw [← hM]; rfl
  have M9 : M 9 = 10 := by rw [(oth 9 (nN 9 (by omega))).2.2, b3]
  have Mo : ∀ i : Nat, 14 ≤ i → M i = ln i := fun i hi => (oth i (nN i (by omega))).2.2
  have gM : gs M + 6 * 2 ^ e = gs ln + 6 * 2 ^ e' := by
    unfold gs
    rw [M7, M8, M10, M11, M12, M13, Mo 14 (by omega), Mo 15 (by omega), Mo 16 (by omega), Mo 17 (by omega), Mo 18 (by omega), Mo 19 (by omega), Mo 20 (by omega), Mo 21 (by omega), Mo 22 (by omega), Mo 23 (by omega), Mo 24 (by omega), Mo 25 (by omega), Mo 26 (by omega), Mo 27 (by omega)]
    omega
  have sh' : SH R (va_up S 7 (32 - e')) M (z.1 + 1 + 1 + 1 + 1 + 1 + 1, z.2 + 2 ^ e' + 2 ^ e' + 2 ^ e' + 2 ^ e' + 2 ^ e' + 2 ^ e') e' := by
    refine ⟨by omega, a2, ⟨M7, M8, M9, M10, M11, M12, M13⟩, up_eq _ _ _, fun k hk => by rw [Mo _ (by omega)]; exact t5 k hk, ?_, ?_⟩
    · show z.1 + 1 + 1 + 1 + 1 + 1 + 1 ≤ _; omega
    · show z.2 + 2 ^ e' + 2 ^ e' + 2 ^ e' + 2 ^ e' + 2 ^ e' + 2 ^ e' ≤ _; omega
  have S9 : va_up S 7 (32 - e') 9 = S 9 := rfl
  have A4 : A 4 = ad 4 := (oth 4 (nN 4 (by omega))).1
  rw [← A4]
  have J7' : ∀ n : Nat, n < 2 ^ e → J 7 n = I 7 n := fun n hn => by rw [J7, ext_lt hn]
  refine ⟨S 9 - 2 + 1, q_N_relink (R := R) (L := L) (E := E) (S := va_up S 7 (32 - e')) (I := J) (nx0 := J 11) (f0 := f0) sh' hf2 (by rw [S9]; exact hf9) (fun n q1 q2 => by rw [S9] at q2; rw [J7' n (by omega)]; exact hfz n q1 q2) (by rw [S9]; omega) (fun n hn => by rw [S9] at hn; rw [J7' n (by omega)]; exact hw n hn) (fun u' nx hd v1 v2 v3 v4 => ?_) (S 9 - 2) 2 u7 (J 11) (fun _ => 0) (by rw [S9]; omega) (by omega) ?_ (fun j hj => ⟨[], rfl, List.nodup_nil, fun n => ⟨fun c => absurd c List.not_mem_nil, fun c => by omega⟩⟩) (fun _ _ => rfl) (fun q => ?_)⟩
  · refine hQ2 u' e' A (va_up S 7 (32 - e')) (va_up (va_up J 11 nx) 12 hd) M _ hee a3 v1 sh' rfl (fun i hi => ?_) (show J 7 = _ from J7) (show J 8 = _ from J8) (show J 10 = _ from J10) (show J 13 = _ from J13) (fun m m1 m2 => ?_) ?_ (by rw [S9] at v4; exact v4)
    · refine ⟨(oth i hi).1, ?_, (oth i hi).2.2⟩
      rw [up_ne _ _ (fun c => hi (by rw [c]; exact n12)), up_ne _ _ (fun c => hi (by rw [c]; exact n11))]
      exact (oth i hi).2.1
    · show nx m = I 11 m
      rw [v3 m (by rw [S9, J7' m m1]; exact m2), J11, ext_lt m1]
    · show HT e' nx hd _ _
      refine v2.congr (fun m => ?_) (fun m hm => ?_) (fun _ _ => rfl)
      · rw [S9]
        constructor
        · rintro ⟨q1, q2, q3⟩; exact ⟨q1, q2, by rw [J7' m (by omega)]; exact q3⟩
        · rintro ⟨q1, q2, q3⟩; exact ⟨q1, q2, by rw [J7' m (by omega)] at q3; exact q3⟩
      · rw [S9] at hm
        exact (J7' m (by omega)).symm
  · have e12 : va_up (va_up J 11 (J 11)) 12 (fun _ => 0) = J := by rw [up_id, ← J12, up_id]
    rw [e12]; exact h7
  · have : f0 = 2 := by omega
    subst this
    exact fun j hj => ⟨[], rfl, List.nodup_nil, fun n => ⟨fun c => absurd c List.not_mem_nil, fun c => by omega⟩⟩
end ROOM
