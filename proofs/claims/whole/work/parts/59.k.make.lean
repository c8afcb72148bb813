/-! nodes are made: the store with them -/
def EX (g : Nat → Nat) (D : Nat → Fn) (g' : Nat → Nat) (D' : Nat → Fn) (m : Nat) : Prop := (∀ n : Nat, IN g n → IN g' n ∧ D' n = D n ∧ g' n = g n) ∧ ∀ n : Nat, g' n ≠ 0 → g n ≠ 0 ∨ n = m
theorem EX.rf (g : Nat → Nat) (D : Nat → Fn) (m : Nat) : EX g D g D m := ⟨fun _ h => ⟨h, rfl, rfl⟩, fun _ h => Or.inl h⟩
section MK
variable {ad S : Nat → Nat} {I : Nat → Nat → Nat} {ln : Nat → Nat} {L : Nat → Nat → Int64} {E : (Nat → Prop) × (Nat → Option PE)} {z R : Nat × Nat} {u : PS} {e : Nat} {g rt xt : Nat → Nat} {D : Nat → Fn} {T : Nat → Prop} {W : Nat → Fn → Prop}
theorem mkN (h : VC 69 ad S I ln L E z u) (sh : SH R S ln z e) (ds : DS e g T S I ln) (rc : RC e g rt xt (I 8)) (hc : CAN W g D) {k a b : Nat} (hk : k < 10) (ha : IN g a) (hb : IN g b) (da : ¬ dep (D a) k) (db : ¬ dep (D b) k) (hw : a ≠ b → W k (iteF k (D a) (D b))) (hu : a ≠ b → ∀ k' : Nat, W k' (iteF k (D a) (D b)) → dep (iteF k (D a) (D b)) k' → k' = k) (hT : a ≠ b → ∀ t : Nat, T t → g t ≠ cd k a b) (hTz : ∀ t : Nat, T t → g t ≠ 0) (hr : a ≠ b → (∀ n : Nat, g n ≠ cd k a b) → S 10 + 2 < 2 ^ e)
    {Q : Int32 → PS → Prop} (hQ : ∀ (u' : PS) (m : Nat) (ad' S' : Nat → Nat) (I' : Nat → Nat → Nat) (ln' : Nat → Nat) (z' : Nat × Nat) (g' : Nat → Nat) (D' : Nat → Fn), VC 69 ad' S' I' ln' L E z' u' → SH R S' ln' z' e → DS e g' T S' I' ln' → RC e g' rt xt (I' 8) → CAN W g' D' → MD g' k a b m → EX g D g' D' m → FN S I S' I' → FA ad ln ad' ln' → S' 10 ≤ S 10 + 1 → (S' 9 = S 9 ∨ S' 9 = S 10 + 3) → (∀ n : Nat, T n → I' 11 n = I 11 n) → (g' = g ∨ (g' = va_up g m (cd k a b) ∧ a ≠ b ∧ ∀ n : Nat, g n ≠ cd k a b)) → (g' = g → S' 10 = S 10) → Q (nI m) u') : p_N_nodeFor (ad 4) (nI k) (nI a) (nI b) u Q := by
  refine q_N_nodeFor h sh ds rc hk ha hb hT hTz hr (fun m hm => ?_) (fun u' m ad' S' I' ln' z' hab hno hg m2 m3 w1 w2 w3 w4 w5 w6 w7 w8 w9 w10 => ?_)
  · exact hQ u m ad S I ln z g D h sh ds rc hc hm (EX.rf g D m) (FN.rf S I) (FA.rf ad ln) (by omega) (Or.inl rfl) (fun _ _ => rfl) (Or.inl rfl) (fun _ => rfl)
  · have hf : ∀ n : Nat, IN g n → D n ≠ iteF k (D a) (D b) := fun n hn q => hno n (hc.code hn ha hb hab da db q (by rw [q]; exact hu hab))
    have nm : ∀ n : Nat, IN g n → n ≠ m := fun n hn q => by
      subst q
      rcases hn with hn | hn
      · omega
      · exact hn hg
    refine hQ u' m ad' S' I' ln' z' _ _ w1 w2 w3 w4 (hc.add hg m2 m3 hk ha hb hab da db (hw hab) hf) (Or.inr ⟨hab, up_eq _ _ _⟩) ⟨fun n hn => ⟨in_up (cd_ne hab) hn, up_ne _ _ (nm n hn), up_ne _ _ (nm n hn)⟩, fun n hn => ?_⟩ w5 w6 (by omega) w7 (fun n hn => w10 n (fun q => hTz n hn (q ▸ hg))) (Or.inr ⟨rfl, hab, hno⟩) (fun q => ?_)
    · by_cases c : n = m
      · exact Or.inr c
      · rw [up_ne _ _ c] at hn; exact Or.inl hn
    · have := congrFun q m
      rw [up_eq, hg] at this
      exact absurd this (cd_ne hab)
end MK
theorem EX.tr {g : Nat → Nat} {D : Nat → Fn} {g' : Nat → Nat} {D' : Nat → Fn} {m : Nat} (h : EX g D g' D' m) {g'' : Nat → Nat} {D'' : Nat → Fn} {m' : Nat} (k : EX g' D' g'' D'' m') : (∀ n : Nat, IN g n → IN g'' n ∧ D'' n = D n ∧ g'' n = g n) ∧ ∀ n : Nat, g'' n ≠ 0 → g n ≠ 0 ∨ n = m ∨ n = m' := by
  refine ⟨fun n hn => ?_, fun n hn => ?_⟩
  · have a := h.1 n hn
    have b := k.1 n a.1
    exact ⟨b.1, b.2.1.trans a.2.1, b.2.2.trans a.2.2⟩
  · rcases k.2 n hn with q | q
    · rcases h.2 n q with q | q
      · exact Or.inl q
      · exact Or.inr (Or.inl q)
    · exact Or.inr (Or.inr q)
theorem MD.ex {g : Nat → Nat} {D : Nat → Fn} {g' : Nat → Nat} {D' : Nat → Fn} {m k a b n : Nat} (h : EX g D g' D' m) (hm : MD g k a b n) (ha : IN g a) : MD g' k a b n := by
  rcases hm with q | ⟨q1, q2⟩
  · exact Or.inl q
  · exact Or.inr ⟨q1, by rw [(h.1 n (Or.inr (by rw [q2]; exact cd_ne q1))).2.2]; exact q2⟩
