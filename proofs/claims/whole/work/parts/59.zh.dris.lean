/-! Diagrams: rise() -/
def iZ (v : Int) : Int32 := Int32.ofInt v
theorem iZ_n (n : Nat) : nI n = iZ (n : Int) := (Int32.ofInt_eq_ofNat).symm
theorem iZ_add (a b : Int) : iZ a + iZ b = iZ (a + b) := (Int32.ofInt_add a b).symm
theorem iZ_sub (a b : Int) : iZ a - iZ b = iZ (a - b) := (Int32.ofInt_sub a b).symm
theorem iZ_int {a : Int} (h1 : -1000000 ≤ a) (h2 : a ≤ 1000000) : (iZ a).toInt = a := Int32.toInt_ofInt_of_le (by omega) (by omega)
theorem iZ_lt {a b : Int} (ha1 : -1000000 ≤ a) (ha2 : a ≤ 1000000) (hb1 : -1000000 ≤ b) (hb2 : b ≤ 1000000) : iZ a < iZ b ↔ a < b := by
  rw [Int32.lt_iff_toInt_lt, iZ_int ha1 ha2, iZ_int hb1 hb2]
theorem iZ_le {a b : Int} (ha1 : -1000000 ≤ a) (ha2 : a ≤ 1000000) (hb1 : -1000000 ≤ b) (hb2 : b ≤ 1000000) : iZ a ≤ iZ b ↔ a ≤ b := by
  rw [Int32.le_iff_toInt_le, iZ_int ha1 ha2, iZ_int hb1 hb2]
theorem iZ_1 : (1 : Int32) = iZ 1 := by decide
theorem iZ_m1 : (-1 : Int32) = iZ (-1) := by decide
/-- the mates among the first n of r, and what they can save -/
def mC (mt : Nat) (r : Nat → Nat) (n : Nat) : Nat := sumTo (fun j => if mt.testBit (r j) then 1 else 0) n
def mS' (mt : Nat) (r a : Nat → Nat) (n : Nat) : Nat := sumTo (fun j => if mt.testBit (r j) then a j - 1 else 0) n
theorem mC_s (mt : Nat) (r : Nat → Nat) (n : Nat) : mC mt r (n + 1) = mC mt r n + (if mt.testBit (r n) then 1 else 0) := rfl
theorem mS_s (mt : Nat) (r a : Nat → Nat) (n : Nat) : mS' mt r a (n + 1) = mS' mt r a n + (if mt.testBit (r n) then a n - 1 else 0) := rfl
section DRI
variable {L : Nat → Nat → Int64} {E : (Nat → Prop) × (Nat → Option PE)} {R : Nat × Nat} {o r : Nat → Nat} {F : Nat → Nat → Bool} {rt ad S : Nat → Nat} {I : Nat → Nat → Nat} {ln : Nat → Nat} {z : Nat × Nat} {u : PS} {e x pl c mt : Nat} {g : Nat → Nat} {D : Nat → Fn}
theorem q_N_asksFor (h : VC 69 ad S I ln L E z u) (l9 : ln 9 = 10) {k : Nat} (hk : k < 10) {Q : Int32 → PS → Prop} (hQ : Q (nI (I 9 k)) u) : p_N_asksFor (ad 4) (nI k) u Q := by
  unfold p_N_asksFor
  exact ⟨_, h.fN (by decide) rfl, _, h.ia 9 (by decide) (ii (by decide)) (j := k) (by omega) (by omega), hQ⟩
/-- the mates above are counted -/
theorem q_D_rise_L8 (h : VC 69 ad S I ln L E z u) (l9 : ln 9 = 10) (l37 : ln 37 = 10) (hr : PR9 r x) (hmt : mt < 1024) (h4 : S 4 = pl) (hpl : pl < 10) (h37 : ∀ j : Nat, j < 9 → I 37 j = r j) (hp1 : ∀ j : Nat, j < pl → mt.testBit (r j) = true → 1 ≤ I 9 (r j)) {x1 : Int32} {X : Int32 → Int32 → PS → Prop} (hX : X (iZ ((mS' mt r (fun j => I 9 (r j)) pl : Int) - 1)) (nI (mC mt r pl)) u) : ∀ (d i : Nat), i + d = pl → p_D_rise_L8 (ad 2) x1 (nI mt) X (d + 1) (iZ ((mS' mt r (fun j => I 9 (r j)) i : Int) - 1)) (nI (mC mt r i)) (nI i) u := by
  intro d
  induction d with
  | zero =>
    intro i hi
    obtain rfl : i = pl := by omega
    rw [p_D_rise_L8]
    refine ⟨_, h.fD (by decide) rfl, ?_⟩
    rw [h4]
    exact pk_le i i (fun _ => hX) (fun w => absurd w (by omega))
  | succ d ih =>
    intro i hi
    rw [p_D_rise_L8]
    refine ⟨_, h.fD (by decide) rfl, ?_⟩
    rw [h4]
    refine pk_le pl i (fun w => absurd w (by omega)) (fun _ => ?_)
    have r37 := h.ia 37 (by decide) (ii (by decide)) (j := i) (by omega) (by omega)
    rw [h37 i (by omega)] at r37
    have hy := hr.1 i (by omega)
    refine ⟨_, h.fD (by decide) rfl, _, r37, ?_⟩
    rw [tb_mate hmt hy.1]
    have hh := ih (i + 1) (by omega)
    rw [mC_s, mS_s] at hh
    cases hb : mt.testBit (r i)
    · refine ⟨fun _ => ?_, fun w => absurd w (by decide)⟩
      unfold p_D_rise_J53
      refine nm_e ?_
      rw [nI_1]
      rw [hb] at hh
      exact hh
    · refine ⟨fun w => absurd rfl w, fun _ => ⟨_, h.fD (by decide) rfl, h.obN (by decide), q_N_asksFor h l9 hy.1 (nm_e (nm_e ?_))⟩⟩
      have p1 := hp1 i (by omega) hb
      unfold p_D_rise_J53
      refine nm_e ?_
      rw [nI_1, nI_1]
      rw [hb, if_pos rfl, if_pos rfl] at hh
      have e1 : iZ ((mS' mt r (fun j => I 9 (r j)) i : Int) - 1) + (nI (I 9 (r i)) - (1 : Int32)) = iZ (((mS' mt r (fun j => I 9 (r j)) i + (I 9 (r i) - 1) : Nat) : Int) - 1) := by
        rw [iZ_n, iZ_1, iZ_sub, iZ_add]
        congr 1
        omega
      rw [e1]
      exact hh
end DRI
