/-! codes as ints, chains, heads -/
theorem nI_eqI {a b : Nat} (ha : a < 2 ^ 32) (hb : b < 2 ^ 32) : nI a = nI b ↔ a = b := by
  constructor
  · intro h
    have e : (nI a).toBitVec.toNat = (nI b).toBitVec.toNat := by rw [h]
    have e1 : (nI a).toBitVec.toNat = a % 2 ^ 32 := BitVec.toNat_ofNat a 32
    have e2 : (nI b).toBitVec.toNat = b % 2 ^ 32 := BitVec.toNat_ofNat b 32
    rw [e1, e2] at e
    omega
  · intro h; rw [h]
theorem nI_0I {a : Nat} (ha : a < 2 ^ 32) : nI a = 0 ↔ a = 0 := nI_eqI (b := 0) ha (by decide)
theorem eqn {a b : Nat} {A B : Prop} (ha : a < 2 ^ 32) (hb : b < 2 ^ 32) (f : a = b → A) (g : a ≠ b → B) : (nI a = nI b → A) ∧ (¬ nI a = nI b → B) :=
  ⟨fun h => f ((nI_eqI ha hb).mp h), fun h => g (fun e => h ((nI_eqI ha hb).mpr e))⟩
theorem eqn' {a b : Nat} {A B : Prop} (ha : a < 2 ^ 32) (hb : b < 2 ^ 32) (f : a = b → A) (g : a ≠ b → B) : (¬ nI a = nI b → B) ∧ (nI a = nI b → A) :=
  ⟨fun h => g (fun e => h ((nI_eqI ha hb).mpr e)), fun h => f ((nI_eqI ha hb).mp h)⟩
theorem nI_mod (w : Nat) : nI (w % 2 ^ 32) = nI w := by
  refine b_ext (fun i hi => ?_)
  rw [bt_nI _ hi, bt_nI _ hi, Nat.testBit_mod_two_pow, decide_eq_true hi, Bool.true_and]
theorem nI_n1 (w : Nat) : nI w &&& (16383 : Int32) = nI (n1 w) := by
  rw [show (16383 : Int32) = nI (2 ^ 14 - 1) from rfl, nx_and, Nat.and_two_pow_sub_one_eq_mod]
  rfl
theorem nI_nk {w : Nat} (hw : w < 2 ^ 32) : ((nI w).toUInt32 >>> ((28 : Int32).toUInt32 &&& Int32.toUInt32 31)).toInt32 = nI (nk w) := pk_ushrN hw 28 28 (s_u 28 (by decide))
theorem nI_n0 {w : Nat} (hw : w < 2 ^ 32) : ((nI w).toUInt32 >>> ((14 : Int32).toUInt32 &&& Int32.toUInt32 31)).toInt32 &&& (16383 : Int32) = nI (n0 w) := by
  rw [pk_ushrN hw 14 14 (s_u 14 (by decide)), nI_n1]
  rfl
theorem nI_shl {a n : Nat} (hn : n < 32) : nI a <<< (nI n &&& 31) = nI (a * 2 ^ n) := by
  refine b_ext (fun i hi => ?_)
  rw [b_shl n hn _ hi, bt_nI _ hi, ← Nat.shiftLeft_eq, Nat.testBit_shiftLeft, bt_nI _ (by omega)]
theorem nI_cd {k z o : Nat} (hz : z < 16384) (ho : o < 16384) : ((nI k <<< ((28 : Int32) &&& 31)) ||| (nI z <<< ((14 : Int32) &&& 31))) ||| nI o = nI (cd k z o) := by
  rw [show (28 : Int32) = nI 28 from rfl, show (14 : Int32) = nI 14 from rfl, nI_shl (by decide), nI_shl (by decide), nx_or, nx_or]
  congr 1
  have e1 : k * 2 ^ 28 ||| z * 2 ^ 14 = k * 2 ^ 28 + z * 2 ^ 14 := by
    rw [Nat.mul_comm k]
    exact (Nat.two_pow_add_eq_or_of_lt (i := 28) (by omega) k).symm
  have e2 : k * 2 ^ 28 + z * 2 ^ 14 = 2 ^ 14 * (k * 2 ^ 14 + z) := by omega
  rw [e1, e2, ← Nat.two_pow_add_eq_or_of_lt (i := 14) ho]
  unfold cd
  omega
theorem cd_lt {k z o : Nat} (hk : k < 16) (hz : z < 16384) (ho : o < 16384) : cd k z o < 2 ^ 32 := by unfold cd; omega
/-- where a code's chain begins -/
def hsx (e w : Nat) : Nat := w * 2654435761 % 2 ^ 32 / 2 ^ (32 - e)
theorem hs_lt {e w : Nat} (he : e ≤ 32) : hsx e w < 2 ^ e := by
  unfold hsx
  refine Nat.div_lt_of_lt_mul ?_
  rw [← Nat.pow_add, show 32 - e + e = 32 by omega]
  exact Nat.mod_lt _ (by decide)
theorem nI_hs {e w : Nat} (he : e ≤ 14) (h6 : 6 ≤ e) : ((nI w * (-1640531535 : Int32)).toUInt32 >>> ((nI (32 - e)).toUInt32 &&& Int32.toUInt32 31)).toInt32 = nI (hsx e w) := by
  rw [show (-1640531535 : Int32) = nI 2654435761 from by decide, pk_mul, ← nI_mod]
  exact pk_ushrN (Nat.mod_lt _ (by decide)) (nI (32 - e)) (32 - e) (s_u (32 - e) (by omega))
def chn (nx : Nat → Nat) : Nat → List Nat → Prop
  | h, [] => h = 0
  | h, a :: l => h = a ∧ a ≠ 0 ∧ chn nx (nx a) l
theorem chn_congr {nx nx' : Nat → Nat} : ∀ (l : List Nat) (h : Nat), (∀ a : Nat, a ∈ l → nx' a = nx a) → chn nx h l → chn nx' h l := by
  intro l
  induction l with
  | nil => intro h _ hc; exact hc
  | cons a l ih =>
    intro h he hc
    refine ⟨hc.1, hc.2.1, ?_⟩
    rw [he a List.mem_cons_self]
    exact ih _ (fun b hb => he b (List.mem_cons_of_mem _ hb)) hc.2.2
theorem chn_nz {nx : Nat → Nat} : ∀ (l : List Nat) (h : Nat), chn nx h l → ∀ a : Nat, a ∈ l → a ≠ 0 := by
  intro l
  induction l with
  | nil => intro h _ a ha; exact absurd ha List.not_mem_nil
  | cons b l ih =>
    intro h hc a ha
    rcases List.mem_cons.mp ha with rfl | ha
    · exact hc.2.1
    · exact ih _ hc.2.2 a ha
theorem chn_hd {nx : Nat → Nat} {l : List Nat} {h : Nat} (hc : chn nx h l) (hh : h ≠ 0) : ∃ l' : List Nat, l = h :: l' ∧ chn nx (nx h) l' := by
  cases l with
  | nil => exact absurd hc hh
  | cons a l => obtain ⟨rfl, _, h3⟩ := hc; exact ⟨l, rfl, h3⟩
theorem nodup_cnt : ∀ l : List Nat, l.Nodup → Cnt (fun n => n ∈ l) l.length := by
  intro l
  induction l with
  | nil => intro _; exact Cnt.zero (fun x hx => absurd hx List.not_mem_nil)
  | cons a l ih =>
    intro h
    have h2 := List.nodup_cons.mp h
    refine (ih h2.2).add a h2.1 (fun x => ?_)
    rw [List.mem_cons]
    exact ⟨fun z => z.symm, fun z => z.symm⟩
theorem nodup_len {l : List Nat} (h : l.Nodup) (hb : ∀ n : Nat, n ∈ l → 2 ≤ n ∧ n < 16384) : l.length ≤ 16382 := by
  refine (nodup_cnt l h).mono (Q := fun n => 2 ≤ n ∧ n < 16384) ⟨fun i => i + 2, fun i j _ _ e => by dsimp only at e; omega, fun i hi => by dsimp only; omega, fun x hx => ⟨x - 2, by omega, by dsimp only; omega⟩⟩ hb
/-- the chains of the heads hold the nodes of K -/
def HT (e : Nat) (nx hd : Nat → Nat) (K : Nat → Prop) (g : Nat → Nat) : Prop := ∀ j : Nat, j < 2 ^ e → ∃ l : List Nat, chn nx (hd j) l ∧ l.Nodup ∧ ∀ n : Nat, n ∈ l ↔ K n ∧ hsx e (g n) = j
def FRL (nx : Nat → Nat) (free fresh size : Nat) (g : Nat → Nat) : Prop := ∃ l : List Nat, chn nx free l ∧ l.Nodup ∧ (∀ n : Nat, n ∈ l ↔ 2 ≤ n ∧ n < fresh ∧ g n = 0) ∧ l.length + size + 2 = fresh
def MBR (mb : Nat → Nat → Nat) (as ma : Nat → Nat) (K : Nat → Prop) (g : Nat → Nat) : Prop := (∀ k i : Nat, k < 10 → i < as k → K (mb k i) ∧ nk (g (mb k i)) = k ∧ ma (mb k i) = i) ∧ ∀ n : Nat, K n → nk (g n) < 10 ∧ ma n < as (nk (g n)) ∧ mb (nk (g n)) (ma n) = n
theorem HT.link {e : Nat} {nx hd : Nat → Nat} {K : Nat → Prop} {g : Nat → Nat} (h : HT e nx hd K g) {n : Nat} (hn : ¬ K n) (h0 : n ≠ 0) {K' : Nat → Prop} (hK : ∀ m : Nat, K' m ↔ K m ∨ m = n) {g' : Nat → Nat} (hg : ∀ m : Nat, K m → g' m = g m) : HT e (va_up nx n (hd (hsx e (g' n)))) (va_up hd (hsx e (g' n)) n) K' g' := by
  intro j hj
  obtain ⟨l, l1, l2, l3⟩ := h j hj
  have nl : n ∉ l := fun z => hn ((l3 n).mp z).1
  have cg : ∀ a : Nat, a ∈ l → va_up nx n (hd (hsx e (g' n))) a = nx a := fun a ha => up_ne _ _ (fun z => nl (z ▸ ha))
  by_cases c : j = hsx e (g' n)
  · refine ⟨n :: l, ?_, List.nodup_cons.mpr ⟨nl, l2⟩, fun m => ?_⟩
    · rw [c, up_eq]
      refine ⟨rfl, h0, ?_⟩
      rw [up_eq]
      rw [c] at l1
      exact chn_congr l _ cg l1
    · rw [List.mem_cons, l3 m, hK m]
      constructor
      · rintro (rfl | ⟨a, b⟩)
        · exact ⟨Or.inr rfl, c.symm⟩
        · exact ⟨Or.inl a, by rw [hg m a]; exact b⟩
      · rintro ⟨a | rfl, b⟩
        · exact Or.inr ⟨a, by rw [← hg m a]; exact b⟩
        · exact Or.inl rfl
  · refine ⟨l, ?_, l2, fun m => ?_⟩
    · rw [up_ne _ _ c]
      exact chn_congr l _ cg l1
    · rw [l3 m, hK m]
      constructor
      · rintro ⟨a, b⟩
        exact ⟨Or.inl a, by rw [hg m a]; exact b⟩
      · rintro ⟨a | rfl, b⟩
        · exact ⟨a, by rw [← hg m a]; exact b⟩
        · exact absurd b.symm c
theorem HT.congr {e : Nat} {nx nx' hd : Nat → Nat} {K K' : Nat → Prop} {g g' : Nat → Nat} (h : HT e nx hd K g) (hK : ∀ m : Nat, K' m ↔ K m) (hg : ∀ m : Nat, K m → g' m = g m) (hx : ∀ m : Nat, K m → nx' m = nx m) : HT e nx' hd K' g' := by
  intro j hj
  obtain ⟨l, l1, l2, l3⟩ := h j hj
  refine ⟨l, chn_congr l _ (fun a ha => hx a ((l3 a).mp ha).1) l1, l2, fun m => ?_⟩
  rw [l3 m, hK m]
  exact ⟨fun ⟨a, b⟩ => ⟨a, by rw [hg m a]; exact b⟩, fun ⟨a, b⟩ => ⟨a, by rw [← hg m a]; exact b⟩⟩
theorem MBR.congr {mb mb' : Nat → Nat → Nat} {as as' ma ma' : Nat → Nat} {K K' : Nat → Prop} {g g' : Nat → Nat} (h : MBR mb as ma K g) (hK : ∀ n : Nat, K' n ↔ K n) (h1 : ∀ k : Nat, k < 10 → mb' k = mb k ∧ as' k = as k) (h2 : ∀ n : Nat, K n → ma' n = ma n ∧ g' n = g n) : MBR mb' as' ma' K' g' := by
  refine ⟨fun k i hk hi => ?_, fun n hn => ?_⟩
  · rw [(h1 k hk).2] at hi
    obtain ⟨a, b, c⟩ := h.1 k i hk hi
    rw [(h1 k hk).1]
    exact ⟨(hK _).mpr a, by rw [(h2 _ a).2]; exact b, by rw [(h2 _ a).1]; exact c⟩
  · have hn := (hK n).mp hn
    obtain ⟨a, b, c⟩ := h.2 n hn
    rw [(h2 n hn).2, (h2 n hn).1, (h1 _ a).1, (h1 _ a).2]
    exact ⟨a, b, c⟩
/-- one more member -/
theorem MBR.add {mb mb' : Nat → Nat → Nat} {as ma : Nat → Nat} {K K' : Nat → Prop} {g g' : Nat → Nat} (h : MBR mb as ma K g) {n k : Nat} (hn : ¬ K n) (hk : k < 10) (hg : nk (g' n) = k) (hK : ∀ m : Nat, K' m ↔ K m ∨ m = n) (hgg : ∀ m : Nat, K m → g' m = g m) (hb : ∀ i : Nat, i < as k → mb' k i = mb k i) (hbn : mb' k (as k) = n) (hbo : ∀ l : Nat, l < 10 → l ≠ k → mb' l = mb l) : MBR mb' (va_up as k (as k + 1)) (va_up ma n (as k)) K' g' := by
  have ne : ∀ m : Nat, K m → m ≠ n := fun m hm q => hn (q ▸ hm)
  refine ⟨fun l i hl hi => ?_, fun m hm => ?_⟩
  · by_cases c : l = k
    · subst c
      rw [up_eq] at hi
      by_cases d : i = as l
      · subst d
        rw [hbn, up_eq]
        exact ⟨(hK n).mpr (Or.inr rfl), hg, rfl⟩
      · obtain ⟨a, b, q⟩ := h.1 l i hl (by omega)
        rw [hb i (by omega), up_ne _ _ (ne _ a), hgg _ a]
        exact ⟨(hK _).mpr (Or.inl a), b, q⟩
    · rw [up_ne _ _ c] at hi
      obtain ⟨a, b, q⟩ := h.1 l i hl hi
      rw [hbo l hl c, up_ne _ _ (ne _ a), hgg _ a]
      exact ⟨(hK _).mpr (Or.inl a), b, q⟩
  · rcases (hK m).mp hm with hm | rfl
    · obtain ⟨a, b, q⟩ := h.2 m hm
      rw [hgg m hm, up_ne _ _ (ne m hm)]
      refine ⟨a, ?_, ?_⟩
      · by_cases c : nk (g m) = k
        · rw [c, up_eq]; rw [c] at b; omega
        · rw [up_ne _ _ c]; exact b
      · by_cases c : nk (g m) = k
        · rw [c] at b q ⊢; rw [hb _ b]; exact q
        · rw [hbo _ a c]; exact q
    · rw [hg, up_eq, up_eq]
      exact ⟨hk, by omega, hbn⟩
/-- one member less: the last one takes its place -/
theorem MBR.rem {mb mb' : Nat → Nat → Nat} {as ma : Nat → Nat} {K K' : Nat → Prop} {g g' : Nat → Nat} (h : MBR mb as ma K g) {n k : Nat} (hn : K n) (hg : nk (g n) = k) (hK : ∀ m : Nat, K' m ↔ K m ∧ m ≠ n) (hgg : ∀ m : Nat, K' m → g' m = g m) (hb : mb' k = va_up (mb k) (ma n) (mb k (as k - 1))) (hbo : ∀ l : Nat, l < 10 → l ≠ k → mb' l = mb l) : MBR mb' (va_up as k (as k - 1)) (va_up ma (mb k (as k - 1)) (ma n)) K' g' := by
  obtain ⟨n1, n2, n3⟩ := h.2 n hn
  rw [hg] at n1 n2 n3
  obtain ⟨l1, l2, l3⟩ := h.1 k (as k - 1) n1 (by omega)
  refine ⟨fun l i hl hi => ?_, fun m hm => ?_⟩
  · by_cases c : l = k
    · subst c
      rw [up_eq] at hi
      rw [hb]
      by_cases d : i = ma n
      · subst d
        rw [up_eq, up_eq]
        have a : K' (mb l (as l - 1)) := (hK _).mpr ⟨l1, fun q => by rw [q] at l3; omega⟩
        exact ⟨a, by rw [hgg _ a]; exact l2, rfl⟩
      · obtain ⟨a, b, q⟩ := h.1 l i hl (by omega)
        rw [up_ne _ _ d, up_ne _ _ (fun w => by rw [w, l3] at q; omega)]
        have a : K' (mb l i) := (hK _).mpr ⟨a, fun w => d (by rw [← q, w])⟩
        exact ⟨a, by rw [hgg _ a]; exact b, q⟩
    · rw [up_ne _ _ c] at hi
      obtain ⟨a, b, q⟩ := h.1 l i hl hi
      rw [hbo l hl c, up_ne _ _ (fun w => c (by rw [← b, w, l2]))]
      have a : K' (mb l i) := (hK _).mpr ⟨a, fun w => c (by rw [← b, w, hg])⟩
      exact ⟨a, by rw [hgg _ a]; exact b, q⟩
  · rw [hgg m hm]
    obtain ⟨hm, hmn⟩ := (hK m).mp hm
    obtain ⟨a, b, q⟩ := h.2 m hm
    refine ⟨a, ?_⟩
    by_cases d : m = mb k (as k - 1)
    · have d2 : ma n ≠ as k - 1 := fun w => hmn (by rw [d, ← w, n3])
      rw [d, l2, up_eq, up_eq, hb, up_eq]
      exact ⟨by omega, rfl⟩
    · rw [up_ne _ _ d]
      by_cases c : nk (g m) = k
      · rw [c] at b q ⊢
        rw [up_eq, hb]
        have d2 : ma m ≠ as k - 1 := fun w => d (by rw [← w, q])
        have d3 : ma m ≠ ma n := fun w => hmn (by rw [← q, w, n3])
        exact ⟨by omega, by rw [up_ne _ _ d3]; exact q⟩
      · rw [up_ne _ _ c, hbo _ a c]
        exact ⟨b, q⟩
