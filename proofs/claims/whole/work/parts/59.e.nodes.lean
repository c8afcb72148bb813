/-! the nodes' small methods -/
theorem ii {i : Nat} (h : 6 ≤ i ∧ i < 41) : isI i := Or.inl h
def gs (ln : Nat → Nat) : Nat := ln 7 + ln 8 + ln 10 + ln 11 + ln 12 + ln 13 + (ln 14 + ln 15 + ln 16 + ln 17 + ln 18 + ln 19 + ln 20 + ln 21 + ln 22 + ln 23) + (ln 24 + ln 25 + ln 26 + ln 27)
def SH (R : Nat × Nat) (S ln : Nat → Nat) (z : Nat × Nat) (e : Nat) : Prop := 6 ≤ e ∧ e ≤ 14 ∧ (ln 7 = 2 ^ e ∧ ln 8 = 2 ^ e ∧ ln 9 = 10 ∧ ln 10 = 2 ^ e ∧ ln 11 = 2 ^ e ∧ ln 12 = 2 ^ e ∧ ln 13 = 2 ^ e) ∧ S 7 = 32 - e ∧ (∀ k : Nat, k < 10 → 8 ≤ ln (14 + k) ∧ ln (14 + k) ≤ 32768) ∧ z.1 ≤ R.1 + gs ln ∧ z.2 ≤ R.2 + 2 * gs ln
theorem SH.le {R : Nat × Nat} {S ln : Nat → Nat} {z : Nat × Nat} {e : Nat} (h : SH R S ln z e) : 2 ^ e ≤ 16384 := Nat.pow_le_pow_right (n := 2) (j := 14) (by omega) h.2.1
theorem SH.s {R : Nat × Nat} {S S' ln : Nat → Nat} {z : Nat × Nat} {e : Nat} (h : SH R S ln z e) (hs : S' 7 = S 7) : SH R S' ln z e := by
  obtain ⟨a1, a2, a3, a4, a5, a6⟩ := h
  exact ⟨a1, a2, a3, by rw [hs]; exact a4, a5, a6⟩
def isN (i : Nat) : Prop := i = 7 ∨ i = 8 ∨ i = 10 ∨ i = 11 ∨ i = 12 ∨ i = 13
section NDs
variable {ad S : Nat → Nat} {I : Nat → Nat → Nat} {ln : Nat → Nat} {L : Nat → Nat → Int64} {E : (Nat → Prop) × (Nat → Option PE)} {z R : Nat × Nat} {u : PS} {e : Nat}
theorem SH.len (h : SH R S ln z e) {i : Nat} (hi : isN i) : ln i = 2 ^ e := by
  obtain ⟨_, _, ⟨b1, b2, _, b3, b4, b5, b6⟩, _⟩ := h
  rcases hi with rfl | rfl | rfl | rfl | rfl | rfl <;> assumption
theorem VC.nia (h : VC 69 ad S I ln L E z u) (sh : SH R S ln z e) (i : Nat) (hi : isN i) {j : Nat} (hj : j < 2 ^ e) : x_ia u (ad i) (nI j) (nI (I i j)) := by
  have l1 := sh.len hi
  have l2 := sh.le
  refine h.ia i ?_ (ii ?_) (by omega) (by omega)
  · rcases hi with rfl | rfl | rfl | rfl | rfl | rfl <;> decide
  · rcases hi with rfl | rfl | rfl | rfl | rfl | rfl <;> decide
theorem VC.nis (h : VC 69 ad S I ln L E z u) (sh : SH R S ln z e) (i : Nat) (hi : isN i) {j : Nat} (hj : j < 2 ^ e) (v : Nat) : ∃ u' : PS, x_is u (ad i) (nI j) (nI v) u' ∧ VC 69 ad S (va_up I i (va_up (I i) j v)) ln L E z u' := by
  have l1 := sh.len hi
  have l2 := sh.le
  refine h.isx i ?_ (ii ?_) (by omega) (by omega) v
  · rcases hi with rfl | rfl | rfl | rfl | rfl | rfl <;> decide
  · rcases hi with rfl | rfl | rfl | rfl | rfl | rfl <;> decide
theorem n7 : isN 7 := Or.inl rfl
theorem n8 : isN 8 := Or.inr (Or.inl rfl)
theorem n10 : isN 10 := Or.inr (Or.inr (Or.inl rfl))
theorem n11 : isN 11 := Or.inr (Or.inr (Or.inr (Or.inl rfl)))
theorem n12 : isN 12 := Or.inr (Or.inr (Or.inr (Or.inr (Or.inl rfl))))
theorem n13 : isN 13 := Or.inr (Or.inr (Or.inr (Or.inr (Or.inr rfl))))
theorem SH.hsh (h : SH R S ln z e) (w : Nat) : ((nI w * (-1640531535 : Int32)).toUInt32 >>> ((nI (S 7)).toUInt32 &&& Int32.toUInt32 31)).toInt32 = nI (hsx e w) := by
  rw [h.2.2.2.1]
  exact nI_hs h.2.1 h.1
theorem SH.hlt (h : SH R S ln z e) (w : Nat) : hsx e w < 2 ^ e := hs_lt (by have := h.2.1; omega)
/-- a node comes into its chain -/
theorem q_N_link (h : VC 69 ad S I ln L E z u) (sh : SH R S ln z e) {m : Nat} (hm : m < 2 ^ e) {K : PS → Prop} (hK : ∀ u' : PS, VC 69 ad S (va_up (va_up I 11 (va_up (I 11) m (I 12 (hsx e (I 7 m))))) 12 (va_up (I 12) (hsx e (I 7 m)) m)) ln L E z u' → K u') : p_N_link (ad 4) (nI m) u K := by
  unfold p_N_link
  refine ⟨_, h.fN (by decide) rfl, _, h.nia sh 7 n7 hm, _, h.fN (by decide) rfl, nm_e ?_⟩
  rw [sh.hsh]
  refine ⟨_, h.fN (by decide) rfl, _, h.fN (by decide) rfl, _, h.nia sh 12 n12 (sh.hlt _), ?_⟩
  obtain ⟨u1, s1, h1⟩ := h.nis sh 11 n11 hm (I 12 (hsx e (I 7 m)))
  refine ⟨u1, s1, _, h1.fN (by decide) rfl, ?_⟩
  obtain ⟨u2, s2, h2⟩ := h1.nis sh 12 n12 (sh.hlt (I 7 m)) m
  exact ⟨u2, s2, hK u2 h2⟩
/-- what is known of the nodes in the chains -/
def KF (e : Nat) (nd : Nat → Nat) (K : Nat → Prop) (g : Nat → Nat) : Prop := ∀ n : Nat, K n → 2 ≤ n ∧ n < 2 ^ e ∧ nd n = g n ∧ g n < 2 ^ 32
theorem q_N_found_L (h : VC 69 ad S I ln L E z u) (sh : SH R S ln z e) {w : Nat} (hw : w < 2 ^ 32) {E38 : Int32 → PS → Prop} {E53 : PS → Prop} {g : Nat → Nat} : ∀ (l : List Nat) (hd s : Nat), chn (I 11) hd l → (∀ n : Nat, n ∈ l → 2 ≤ n ∧ n < 2 ^ e ∧ I 7 n = g n ∧ g n < 2 ^ 32) → s + l.length < 16384 → (∀ n : Nat, n ∈ l → g n = w → E38 (nI n) u) → ((∀ n : Nat, n ∈ l → g n ≠ w) → E53 u) → p_N_found_L17 (ad 4) (nI w) E38 E53 (l.length + 1) (nI hd) (nI s) u := by
  have l2 := sh.le
  intro l
  induction l with
  | nil =>
    intro hd s hc _ _ _ h2
    rw [p_N_found_L17]
    have : hd = 0 := hc
    subst this
    exact ⟨fun _ => h2 (fun n hn => absurd hn List.not_mem_nil), fun z => absurd rfl z⟩
  | cons a l ih =>
    intro hd s hc hf hs h1 h2
    obtain ⟨rfl, ha0, hc2⟩ := hc
    obtain ⟨f1, f2, f3, f4⟩ := hf hd List.mem_cons_self
    rw [List.length_cons] at hs
    rw [p_N_found_L17, List.length_cons]
    refine ⟨fun z => absurd ((nI_0I (by omega)).mp z) ha0, fun _ => pk_le 16384 s (fun z => absurd z (by omega)) (fun _ => ?_)⟩
    refine ⟨_, h.fN (by decide) rfl, _, h.nia sh 7 n7 f2, ?_⟩
    rw [f3]
    refine eqn' f4 hw (fun z => h1 hd List.mem_cons_self z) (fun z => ?_)
    refine ⟨_, h.fN (by decide) rfl, _, h.nia sh 11 n11 f2, nm_e ?_⟩
    rw [nI_1]
    exact ih (I 11 hd) (s + 1) hc2 (fun n hn => hf n (List.mem_cons_of_mem _ hn)) (by omega) (fun n hn => h1 n (List.mem_cons_of_mem _ hn)) (fun q => h2 (fun n hn => by
      rcases List.mem_cons.mp hn with rfl | hn
      · exact z
      · exact q n hn))
/-- the lists of chains are short -/
theorem HT.list {K : Nat → Prop} {g nx hd nd : Nat → Nat} (ht : HT e nx hd K g) (kf : KF e nd K g) (he : 2 ^ e ≤ 16384) {j : Nat} (hj : j < 2 ^ e) : ∃ l : List Nat, chn nx (hd j) l ∧ l.Nodup ∧ (∀ n : Nat, n ∈ l ↔ K n ∧ hsx e (g n) = j) ∧ l.length ≤ 16382 ∧ ∀ n : Nat, n ∈ l → 2 ≤ n ∧ n < 2 ^ e ∧ nd n = g n ∧ g n < 2 ^ 32 := by
  obtain ⟨l, l1, l2, l3⟩ := ht j hj
  have f : ∀ n : Nat, n ∈ l → 2 ≤ n ∧ n < 2 ^ e ∧ nd n = g n ∧ g n < 2 ^ 32 := fun n hn => kf n ((l3 n).mp hn).1
  exact ⟨l, l1, l2, l3, nodup_len l2 (fun n hn => ⟨(f n hn).1, by have := (f n hn).2.1; omega⟩), f⟩
theorem q_N_found (h : VC 69 ad S I ln L E z u) (sh : SH R S ln z e) {K : Nat → Prop} {g : Nat → Nat} (ht : HT e (I 11) (I 12) K g) (kf : KF e (I 7) K g) {w : Nat} (hw : w < 2 ^ 32) {Q : Int32 → PS → Prop} (h1 : ∀ n : Nat, K n → g n = w → Q (nI n) u) (h2 : (∀ n : Nat, K n → g n ≠ w) → Q 0 u) : p_N_found (ad 4) (nI w) u Q := by
  unfold p_N_found
  obtain ⟨l, l1, l2, l3, l4, l5⟩ := ht.list kf sh.le (sh.hlt w)
  refine ⟨_, h.fN (by decide) rfl, _, h.fN (by decide) rfl, _, by rw [sh.hsh]; exact h.nia sh 12 n12 (sh.hlt w), l.length + 1, ?_⟩
  refine q_N_found_L h sh hw l _ 0 l1 l5 (by omega) (fun n hn e => h1 n ((l3 n).mp hn).1 e) (fun q => h2 (fun n hn e => ?_))
  exact q n ((l3 n).mpr ⟨hn, by rw [e]⟩) e
theorem q_N_unlink_L (h : VC 69 ad S I ln L E z u) (sh : SH R S ln z e) {n : Nat} (hn3 : n < 2 ^ e) {E69 : Int32 → PS → Prop} {E91 : PS → Prop} : ∀ (l : List Nat) (hd s : Nat), chn (I 11) hd l → l.Nodup → n ∈ l → hd ≠ n → (∀ a : Nat, a ∈ l → a < 2 ^ e) → s + l.length < 16384 → (∀ a : Nat, a ∈ l → a ≠ n → I 11 a = n → chn (va_up (I 11) a (I 11 n)) hd (l.erase n) → E69 (nI a) u) → p_N_unlink_L43 (ad 4) (nI n) E69 E91 (l.length + 1) (nI hd) (nI s) u := by
  have l2 := sh.le
  intro l
  induction l with
  | nil => intro hd s _ _ hn; exact absurd hn List.not_mem_nil
  | cons a l ih =>
    intro hd s hc hnd hn hh hf hs h1
    obtain ⟨rfl, ha0, hc2⟩ := hc
    have hlt := hf hd List.mem_cons_self
    have hd2 := List.nodup_cons.mp hnd
    have hnl : n ∈ l := by
      rcases List.mem_cons.mp hn with rfl | q
      · exact absurd rfl hh
      · exact q
    have e1 : (hd :: l).erase n = hd :: l.erase n := List.erase_cons_tail (by simpa using hh)
    have hx : I 11 hd < 2 ^ e := by
      cases l with
      | nil => exact absurd hnl List.not_mem_nil
      | cons b l => obtain ⟨rfl, _, _⟩ := hc2; exact hf _ (List.mem_cons_of_mem _ List.mem_cons_self)
    rw [List.length_cons] at hs
    rw [p_N_unlink_L43, List.length_cons]
    refine ⟨fun q => absurd ((nI_0I (by omega)).mp q) ha0, fun _ => pk_le 16384 s (fun q => absurd q (by omega)) (fun _ => ?_)⟩
    refine ⟨_, h.fN (by decide) rfl, _, h.nia sh 11 n11 hlt, ?_⟩
    refine eqn' (by omega) (by omega) (fun q => ?_) (fun q => nm_e ?_)
    · refine h1 hd List.mem_cons_self hh q ?_
      rw [e1]
      refine ⟨rfl, ha0, ?_⟩
      rw [up_eq]
      rw [q] at hc2
      obtain ⟨l', e2, hc3⟩ := chn_hd hc2 (chn_nz l _ hc2 n hnl)
      subst e2
      rw [List.erase_cons_head]
      exact chn_congr l' _ (fun b hb => up_ne _ _ (fun w => hd2.1 (w ▸ List.mem_cons_of_mem _ hb))) hc3
    · rw [nI_1]
      refine ih (I 11 hd) (s + 1) hc2 hd2.2 hnl q (fun b hb => hf b (List.mem_cons_of_mem _ hb)) (by omega) (fun b hb hbn hxb hcb => ?_)
      refine h1 b (List.mem_cons_of_mem _ hb) hbn hxb ?_
      rw [e1]
      exact ⟨rfl, ha0, by rw [up_ne _ _ (fun w : hd = b => hd2.1 (by rw [w]; exact hb))]; exact hcb⟩
/-- a node leaves its chain -/
theorem q_N_unlink (h : VC 69 ad S I ln L E z u) (sh : SH R S ln z e) {K : Nat → Prop} {g : Nat → Nat} (ht : HT e (I 11) (I 12) K g) (kf : KF e (I 7) K g) {n : Nat} (hn : K n) {Q : PS → Prop} (hQ : ∀ (u' : PS) (nx hd : Nat → Nat), VC 69 ad S (va_up (va_up I 11 nx) 12 hd) ln L E z u' → HT e nx hd (fun m => K m ∧ m ≠ n) g → (∀ m : Nat, ¬ (K m ∧ m ≠ n) → nx m = I 11 m) → Q u') : p_N_unlink (ad 4) (nI n) u Q := by
  have l2 := sh.le
  obtain ⟨k1, k2, k3, k4⟩ := kf n hn
  obtain ⟨l, c1, c2, c3, c4, c5⟩ := ht.list kf sh.le (sh.hlt (g n))
  have hnl : n ∈ l := (c3 n).mpr ⟨hn, rfl⟩
  -- the other chains
  have oth : ∀ (nx : Nat → Nat), (∀ m : Nat, m ∉ l → nx m = I 11 m) → ∀ j : Nat, j < 2 ^ e → j ≠ hsx e (g n) → ∃ l' : List Nat, chn nx (I 12 j) l' ∧ l'.Nodup ∧ ∀ m : Nat, m ∈ l' ↔ (K m ∧ m ≠ n) ∧ hsx e (g m) = j := by
    intro nx hnx j hj hne
    obtain ⟨l', d1, d2, d3⟩ := ht j hj
    refine ⟨l', chn_congr l' _ (fun a ha => hnx a (fun q => hne ?_)) d1, d2, fun m => ?_⟩
    · rw [← ((d3 a).mp ha).2, ((c3 a).mp q).2]
    · rw [d3 m]
      constructor
      · rintro ⟨a, b⟩
        exact ⟨⟨a, fun q => hne (by rw [← b, q])⟩, b⟩
      · rintro ⟨⟨a, _⟩, b⟩
        exact ⟨a, b⟩
  have mem : ∀ m : Nat, m ∈ l.erase n ↔ (K m ∧ m ≠ n) ∧ hsx e (g m) = hsx e (g n) := fun m => by
    rw [c2.mem_erase_iff, c3 m]
    constructor
    · rintro ⟨a, b, c⟩; exact ⟨⟨b, a⟩, c⟩
    · rintro ⟨⟨b, a⟩, c⟩; exact ⟨a, b, c⟩
  unfold p_N_unlink
  refine ⟨_, h.fN (by decide) rfl, _, h.nia sh 7 n7 k2, _, h.fN (by decide) rfl, nm_e ?_⟩
  rw [sh.hsh, k3]
  have hlt : I 12 (hsx e (g n)) < 2 ^ e := by
    cases l with
    | nil => exact absurd hnl List.not_mem_nil
    | cons b l => obtain ⟨q, _, _⟩ := c1; rw [q]; exact (c5 b List.mem_cons_self).2.1
  refine ⟨_, h.fN (by decide) rfl, _, h.nia sh 12 n12 (sh.hlt _), eqn' (by omega) (by omega) (fun q => ?_) (fun q => ?_)⟩
  · refine ⟨_, h.fN (by decide) rfl, _, h.fN (by decide) rfl, _, h.nia sh 11 n11 k2, ?_⟩
    obtain ⟨u1, s1, h1⟩ := h.nis sh 12 n12 (sh.hlt (g n)) (I 11 n)
    refine ⟨u1, s1, hQ u1 (I 11) (va_up (I 12) (hsx e (g n)) (I 11 n)) ?_ (fun j hj => ?_) (fun _ _ => rfl)⟩
    · rw [up_id]; exact h1
    · by_cases c : j = hsx e (g n)
      · subst c
        refine ⟨l.erase n, ?_, c2.erase n, mem⟩
        rw [up_eq]
        rw [q] at c1
        obtain ⟨l', e2, hc3⟩ := chn_hd c1 (by omega)
        subst e2
        rw [List.erase_cons_head]
        exact hc3
      · rw [up_ne _ _ c]
        exact oth (I 11) (fun _ _ => rfl) j hj c
  · refine ⟨l.length + 1, q_N_unlink_L h sh k2 l _ 0 c1 c2 hnl q (fun a ha => (c5 a ha).2.1) (by omega) (fun a ha han hxa hca => ?_)⟩
    unfold p_N_unlink_J69
    refine ⟨_, h.fN (by decide) rfl, _, h.fN (by decide) rfl, _, h.nia sh 11 n11 k2, ?_⟩
    obtain ⟨u1, s1, h1⟩ := h.nis sh 11 n11 (c5 a ha).2.1 (I 11 n)
    refine ⟨u1, s1, hQ u1 (va_up (I 11) a (I 11 n)) (I 12) ?_ (fun j hj => ?_) (fun m hm => up_ne _ _ (fun w => hm ?_))⟩
    · have e3 : va_up (va_up I 11 (va_up (I 11) a (I 11 n))) 12 (I 12) = va_up I 11 (va_up (I 11) a (I 11 n)) := by
        have := up_id (va_up I 11 (va_up (I 11) a (I 11 n))) 12
        rw [up_ne I _ (show (12 : Nat) ≠ 11 by decide)] at this
        exact this
      rw [e3]; exact h1
    · by_cases c : j = hsx e (g n)
      · subst c
        exact ⟨l.erase n, hca, c2.erase n, mem⟩
      · exact oth _ (fun m hm => up_ne _ _ (fun w => hm (w ▸ ha))) j hj c
    · rw [w]; exact ⟨((c3 a).mp ha).1, han⟩
end NDs
