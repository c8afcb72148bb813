/-! the constructors: a block of cells from sz on -/
def CV (sz n s : Nat) (f : Nat → PE) (u : PS) : Prop := (∀ i : Nat, i < n → u.1 (sz + i) = some (f i)) ∧ u.2 = (sz + n, s)
section CVs
variable {sz n s : Nat} {f : Nat → PE} {u : PS}
theorem CV.nw (h : CV sz n s f u) (e : PE) (k : Nat) {n' : Nat} (hn : n + 1 = n') : CV sz n' (s + k) (va_up f n e) (x_nw u e k) := by
  obtain ⟨h1, h2⟩ := h
  subst hn
  have e1 : u.2.1 = sz + n := by rw [h2]
  have e2 : u.2.2 = s := by rw [h2]
  refine ⟨fun i hi => ?_, ?_⟩
  · show va_up u.1 u.2.1 (some e) (sz + i) = _
    rw [e1]
    by_cases c : i = n
    · subst c; rw [up_eq, up_eq]
    · rw [up_ne _ _ (show sz + i ≠ sz + n by omega), up_ne _ _ c]; exact h1 i (by omega)
  · show (u.2.1 + 1, u.2.2 + k) = _
    rw [e1, e2]; rfl
theorem CV.up (h : CV sz n s f u) {i : Nat} (hi : i < n) (e : PE) : CV sz n s (va_up f i e) (x_up u (sz + i) e) := by
  obtain ⟨h1, h2⟩ := h
  refine ⟨fun j hj => ?_, h2⟩
  by_cases c : j = i
  · subst c; rw [x_up_s, up_eq]
  · rw [x_up_n u e (show sz + j ≠ sz + i by omega), up_ne _ _ c]; exact h1 j hj
theorem CV.cast (h : CV sz n s f u) {s' : Nat} {f' : Nat → PE} (hs : s = s') (hf : ∀ i : Nat, i < n → f i = f' i) : CV sz n s' f' u := by
  subst hs
  exact ⟨fun i hi => by rw [h.1 i hi, hf i hi], h.2⟩
theorem nI_nn {k : Nat} (hk : k < 2 ^ 31) : ¬ nI k < 0 := Int32.not_lt.mpr (nI_le (a := 0) (b := k) (by omega) hk)
theorem CV.ni (h : CV sz n s f u) {x : Int32} (k n' : Nat) (hn : n + 1 = n') (hx : x = nI k) (hk : k ≤ 100000) {Q : Nat → PS → Prop} (hQ : ∀ u' : PS, CV sz n' (s + k) (va_up f n (cI k (fun _ => 0))) u' → Q (sz + n) u') : ∃ (a : Nat) (u' : PS), x_ni u x a u' ∧ Q a u' := by
  subst hx
  have e1 : u.2.1 = sz + n := by rw [h.2]
  have c : (nI k).toNatClampNeg = k := nI_clamp (by omega)
  refine ⟨u.2.1, _, ⟨nI_nn (by omega), by rw [c]; omega, rfl, rfl⟩, ?_⟩
  rw [c, e1]
  exact hQ _ (h.nw _ k hn)
theorem CV.nz (h : CV sz n s f u) {x : Int32} (k n' : Nat) (hn : n + 1 = n') (hx : x = nI k) (hk : k ≤ 100000) {Q : Nat → PS → Prop} (hQ : ∀ u' : PS, CV sz n' (s + k) (va_up f n (.inl (4, k, .inl (fun _ => 0)))) u' → Q (sz + n) u') : ∃ (a : Nat) (u' : PS), x_nz u x a u' ∧ Q a u' := by
  subst hx
  have e1 : u.2.1 = sz + n := by rw [h.2]
  have c : (nI k).toNatClampNeg = k := nI_clamp (by omega)
  refine ⟨u.2.1, _, ⟨nI_nn (by omega), by rw [c]; omega, rfl, rfl⟩, ?_⟩
  rw [c, e1]
  exact hQ _ (h.nw _ k hn)
theorem CV.nl (h : CV sz n s f u) {x : Int32} (k n' : Nat) (hn : n + 1 = n') (hx : x = nI k) (hk : k ≤ 100000) {Q : Nat → PS → Prop} (hQ : ∀ u' : PS, CV sz n' (s + k) (va_up f n (.inl (1, k, .inr (.inl (fun _ => 0))))) u' → Q (sz + n) u') : ∃ (a : Nat) (u' : PS), x_nl u x a u' ∧ Q a u' := by
  subst hx
  have e1 : u.2.1 = sz + n := by rw [h.2]
  have c : (nI k).toNatClampNeg = k := nI_clamp (by omega)
  refine ⟨u.2.1, _, ⟨nI_nn (by omega), by rw [c]; omega, rfl, rfl⟩, ?_⟩
  rw [c, e1]
  exact hQ _ (h.nw _ k hn)
theorem CV.no (h : CV sz n s f u) {ci : Nat} {fs : List Value} (n' : Nat) (hn : n + 1 = n') {Q : Nat → PS → Prop} (hQ : ∀ u' : PS, CV sz n' (s + fs.length) (va_up f n (.inr (ci, fs))) u' → Q (sz + n) u') : ∃ (a : Nat) (u' : PS), x_no u ci fs a u' ∧ Q a u' := by
  have e1 : u.2.1 = sz + n := by rw [h.2]
  refine ⟨u.2.1, _, ⟨rfl, rfl⟩, ?_⟩
  rw [e1]
  exact hQ _ (h.nw _ _ hn)
def gnF (sz n N t tc : Nat) (z : vp_A) (f : Nat → PE) : Nat → PE := fun j => if j < n then f j else if j = n then .inl (t, N, .inr (.inr (.inr (.inr (fun i => if i < N then some (sz + n + 1 + i) else none))))) else .inl (tc, z)
theorem CV.gn (h : CV sz n s f u) {x y : Int32} {t tc : Nat} (N K n' : Nat) (hn : n + 1 + N = n') (hx : x = nI N) (hy : y = nI K) (hN : N ≤ 1000) (hK : K ≤ 1000) {z : Nat → vp_A} {Q : Nat → PS → Prop} (hQ : ∀ u' : PS, CV sz n' (s + (N + N * K)) (gnF sz n N t tc (z K) f) u' → Q (sz + n) u') : ∃ (a : Nat) (u' : PS), x_gn u t tc x y z a u' ∧ Q a u' := by
  subst hx
  subst hy
  subst hn
  have e1 : u.2.1 = sz + n := by rw [h.2]
  have e2 : u.2.2 = s := by rw [h.2]
  have c : (nI N).toNatClampNeg = N := nI_clamp (by omega)
  have d : (nI K).toNatClampNeg = K := nI_clamp (by omega)
  refine ⟨u.2.1, _, ⟨nI_nn (by omega), nI_nn (by omega), by rw [c]; omega, by rw [d]; omega, rfl, rfl⟩, ?_⟩
  rw [c, d, e1]
  refine hQ _ ⟨fun i hi => ?_, ?_⟩
  · show (if sz + i = u.2.1 then _ else if u.2.1 < sz + i ∧ sz + i < u.2.1 + 1 + N then _ else u.1 (sz + i)) = some (gnF sz n N t tc (z K) f i)
    rw [e1]
    unfold gnF
    by_cases c1 : i < n
    · rw [if_neg (by omega), if_neg (by omega), if_pos c1]; exact h.1 i c1
    · by_cases c2 : i = n
      · rw [if_pos (by omega), if_neg c1, if_pos c2]
      · rw [if_neg (by omega), if_pos (by omega), if_neg c1, if_neg c2]
  · show (u.2.1 + 1 + N, u.2.2 + (N + N * K)) = _
    rw [e1, e2, show sz + n + 1 + N = sz + (n + 1 + N) by omega]
theorem CV.pv (h : CV sz n s f u) {i ci k : Nat} {v : Value} {fs : List Value} (hf : f i = .inr (ci, fs)) (hi : i < n) (hk : k < fs.length) {Q : PS → Prop} (hQ : ∀ u' : PS, CV sz n s (va_up f i (.inr (ci, fs.set k v))) u' → Q u') : ∃ u' : PS, x_pv u (sz + i) ci k v u' ∧ Q u' :=
  ⟨_, ⟨fs, by rw [h.1 i hi, hf], hk, rfl⟩, hQ _ (h.up hi _)⟩
theorem CV.is (h : CV sz n s f u) {i m : Nat} {g : Nat → Nat} (hf : f i = cI m g) (hi : i < n) {j v : Nat} {a b : Int32} (ha : a = nI j) (hb : b = nI v) (hj : j < m) (hm : m < 2 ^ 31) {Q : PS → Prop} (hQ : ∀ u' : PS, CV sz n s (va_up f i (cI m (va_up g j v))) u' → Q u') : ∃ u' : PS, x_is u (sz + i) a b u' ∧ Q u' := by
  subst ha
  subst hb
  refine ⟨_, ⟨m, _, by rw [h.1 i hi, hf]; rfl, vp_in_nI hj hm, rfl⟩, ?_⟩
  rw [nI_clamp (by omega), upd_nI]
  exact hQ _ (h.up hi _)
theorem CV.fr (h : CV sz n s f u) {i ci k : Nat} {v : Value} {fs : List Value} (hf : f i = .inr (ci, fs)) (hi : i < n) (hk : fs[k]? = some v) : x_fv u (sz + i) ci k v := ⟨fs, by rw [h.1 i hi, hf], hk⟩
theorem CV.ob (h : CV sz n s f u) {i ci : Nat} {fs : List Value} (hf : f i = .inr (ci, fs)) (hi : i < n) : x_ob u (sz + i) ci := ⟨fs, by rw [h.1 i hi, hf]⟩
theorem all_s {P : Nat → Prop} {m : Nat} (h : ∀ i : Nat, i < m → P i) (hn : P m) : ∀ i : Nat, i < m + 1 → P i := fun i hi => by
  by_cases c : i = m
  · subst c; exact hn
  · exact h i (by omega)
theorem all_t {P : Nat → Prop} {m : Nat} (hn : P m) (h : ∀ i : Nat, i < m → P i) : ∀ i : Nat, i < m + 1 → P i := all_s h hn
theorem all_0 {P : Nat → Prop} : ∀ i : Nat, i < 0 → P i := fun i hi => absurd hi (Nat.not_lt_zero i)
def op : Nat → Nat → Nat
  | 0 => fun _ => 0
  | m + 1 => va_up (op m) m m
theorem op_v : ∀ m j : Nat, j < m → op m j = j := by
  intro m
  induction m with
  | zero => intro j hj; omega
  | succ m ih =>
    intro j hj
    show va_up (op m) m m j = j
    by_cases c : j = m
    · subst c; exact up_eq _ _ _
    · rw [up_ne _ _ c]; exact ih j (by omega)

def fF (sz : Nat) (f : Nat → PE) : Nat → PE := fun j => if j < 1 then f j else if j = 1 then .inr (2, [.ref (sz + 2), .ref (sz + 27), .int 16777215, .int 0, .ref (sz + 28)]) else if j < 27 then gnF sz 2 24 3 1 (16, .inr (.inl (fun _ => 0))) f j else if j = 27 then cI 24 (fun _ => 0) else .inl (1, 16, .inr (.inl (fun _ => 0)))
theorem q_F_init (h : CV sz 2 s f u) (h1 : f 1 = .inr (2, [.null, .null, .int 0, .int 0, .null])) {K : PS → Prop} (hK : ∀ u' : PS, CV sz 29 (s + 448) (fF sz f) u' → K u') : p_F_init (sz + 1) u K := by
  unfold p_F_init
  refine h.gn 24 16 27 rfl rfl rfl (by decide) (by decide) (fun v1 k1 => ?_)
  refine k1.pv (i := 1) h1 (by decide) (Nat.le_of_ble_eq_true rfl) (fun v2 k2 => ?_)
  refine k2.ni 24 28 rfl rfl (by decide) (fun v3 k3 => ?_)
  refine k3.pv (i := 1) rfl (by decide) (Nat.le_of_ble_eq_true rfl) (fun v4 k4 => ?_)
  refine k4.pv (i := 1) rfl (by decide) (Nat.le_of_ble_eq_true rfl) (fun v5 k5 => ?_)
  refine k5.pv (i := 1) rfl (by decide) (Nat.le_of_ble_eq_true rfl) (fun v6 k6 => ?_)
  refine k6.nl 16 29 rfl rfl (by decide) (fun v7 k7 => ?_)
  refine k7.pv (i := 1) rfl (by decide) (Nat.le_of_ble_eq_true rfl) (fun v8 k8 => ?_)
  refine hK _ (k8.cast (by omega) ?_)
  repeat (refine all_t ?_ ?_; exact rfl)
  exact all_0
def fN (sz : Nat) (f : Nat → PE) : Nat → PE := fun j => if j < 30 then f j else if j = 30 then .inr (3, [.ref (sz + 31), .ref (sz + 32), .ref (sz + 33), .ref (sz + 44), .ref (sz + 45), .ref (sz + 46), .ref (sz + 47), .int (nI 26), .int 0, .int 2, .int 0, .ref (sz + 48), .int 0]) else if j = 31 then cI 64 (va_up (va_up (fun _ => 0) 0 2684354560) 1 2684354560) else if j = 32 then cI 64 (va_up (va_up (fun _ => 0) 0 1073741824) 1 1073741824) else if j < 44 then gnF sz 33 10 2 0 (8, .inl (fun _ => 0)) f j else if j = 44 then cI 10 (fun _ => 0) else cI 64 (fun _ => 0)
set_option maxHeartbeats 2000000 in
theorem q_N_init (h : CV sz 31 s f u) (h1 : f 30 = .inr (3, [.null, .null, .null, .null, .null, .null, .null, .int 0, .int 0, .int 0, .int 0, .null, .int 0])) {K : PS → Prop} (hK : ∀ u' : PS, CV sz 49 (s + 484) (fN sz f) u' → K u') : p_N_init (sz + 30) u K := by
  unfold p_N_init
  refine h.ni 64 32 rfl rfl (by decide) (fun v9 k9 => ?_)
  refine k9.pv (i := 30) h1 (by decide) (Nat.le_of_ble_eq_true rfl) (fun v10 k10 => ?_)
  refine k10.ni 64 33 rfl rfl (by decide) (fun v11 k11 => ?_)
  refine k11.pv (i := 30) rfl (by decide) (Nat.le_of_ble_eq_true rfl) (fun v12 k12 => ?_)
  refine k12.gn 10 8 44 rfl rfl rfl (by decide) (by decide) (fun v13 k13 => ?_)
  refine k13.pv (i := 30) rfl (by decide) (Nat.le_of_ble_eq_true rfl) (fun v14 k14 => ?_)
  refine k14.ni 10 45 rfl rfl (by decide) (fun v15 k15 => ?_)
  refine k15.pv (i := 30) rfl (by decide) (Nat.le_of_ble_eq_true rfl) (fun v16 k16 => ?_)
  refine k16.ni 64 46 rfl rfl (by decide) (fun v17 k17 => ?_)
  refine k17.pv (i := 30) rfl (by decide) (Nat.le_of_ble_eq_true rfl) (fun v18 k18 => ?_)
  refine k18.ni 64 47 rfl rfl (by decide) (fun v19 k19 => ?_)
  refine k19.pv (i := 30) rfl (by decide) (Nat.le_of_ble_eq_true rfl) (fun v20 k20 => ?_)
  refine k20.ni 64 48 rfl rfl (by decide) (fun v21 k21 => ?_)
  refine k21.pv (i := 30) rfl (by decide) (Nat.le_of_ble_eq_true rfl) (fun v22 k22 => ?_)
  refine q_ntz (x := 64) (t := 6) ⟨0, by decide⟩ (by decide) ?_
  rw [show (32 : Int32) - nI 6 = nI 26 by decide]
  refine k22.pv (i := 30) rfl (by decide) (Nat.le_of_ble_eq_true rfl) (fun v25 k25 => ?_)
  refine k25.pv (i := 30) rfl (by decide) (Nat.le_of_ble_eq_true rfl) (fun v26 k26 => ?_)
  refine k26.pv (i := 30) rfl (by decide) (Nat.le_of_ble_eq_true rfl) (fun v27 k27 => ?_)
  refine k27.pv (i := 30) rfl (by decide) (Nat.le_of_ble_eq_true rfl) (fun v28 k28 => ?_)
  refine k28.ni 64 49 rfl rfl (by decide) (fun v29 k29 => ?_)
  refine k29.pv (i := 30) rfl (by decide) (Nat.le_of_ble_eq_true rfl) (fun v30 k30 => ?_)
  refine k30.pv (i := 30) rfl (by decide) (Nat.le_of_ble_eq_true rfl) (fun v31 k31 => ?_)
  refine ⟨0 + 1 + 1 + 1, ?_⟩
  rw [p_N_init_L106]
  refine br_f (by decide) ⟨_, k31.fr (i := 30) rfl (by decide) rfl, ?_⟩
  refine k31.is (i := 31) (j := 0) (v := 2684354560) rfl (by decide) (by decide) (by decide) (by decide) (by decide) (fun w0 l0 => ?_)
  refine ⟨_, l0.fr (i := 30) rfl (by decide) rfl, ?_⟩
  refine l0.is (i := 32) (j := 0) (v := 1073741824) rfl (by decide) (by decide) (by decide) (by decide) (by decide) (fun ww0 m0 => nm_e ?_)
  rw [p_N_init_L106]
  refine br_f (by decide) ⟨_, m0.fr (i := 30) rfl (by decide) rfl, ?_⟩
  refine m0.is (i := 31) (j := 1) (v := 2684354560) rfl (by decide) (by decide) (by decide) (by decide) (by decide) (fun w1 l1 => ?_)
  refine ⟨_, l1.fr (i := 30) rfl (by decide) rfl, ?_⟩
  refine l1.is (i := 32) (j := 1) (v := 1073741824) rfl (by decide) (by decide) (by decide) (by decide) (by decide) (fun ww1 m1 => nm_e ?_)
  rw [p_N_init_L106]
  refine br_t (by decide) ?_
  refine hK _ (m1.cast (by omega) ?_)
  repeat (refine all_t ?_ ?_; exact rfl)
  exact all_0
def fG (sz : Nat) (f : Nat → PE) : Nat → PE := fun j => if j < 49 then f j else if j = 49 then .inr (1, [.ref (sz + 1), .ref (sz + 30), .ref (sz + 50), .ref (sz + 51), .ref (sz + 52), .ref (sz + 53), .ref (sz + 54), .ref (sz + 55), .ref (sz + 56), .ref (sz + 57)]) else if j = 50 then cI 10 (fun _ => 0) else if j < 53 then cI 32 (fun _ => 0) else if j = 53 then .inl (1, 16, .inr (.inl (fun _ => 0))) else if j < 56 then cI 16 (fun _ => 0) else cI 10 (fun _ => 0)
set_option maxHeartbeats 2000000 in
theorem q_G_init (h : CV sz 50 s f u) (h1 : f 49 = .inr (1, [.null, .null, .null, .null, .null, .null, .null, .null, .null, .null])) {K : PS → Prop} (hK : ∀ u' : PS, CV sz 58 (s + 142) (fG sz f) u' → K u') : p_G_init (sz + 49) (sz + 1) (sz + 30) u K := by
  unfold p_G_init
  refine h.pv (i := 49) h1 (by decide) (Nat.le_of_ble_eq_true rfl) (fun v32 k32 => ?_)
  refine k32.pv (i := 49) rfl (by decide) (Nat.le_of_ble_eq_true rfl) (fun v33 k33 => ?_)
  refine k33.ni 10 51 rfl rfl (by decide) (fun v34 k34 => ?_)
  refine k34.pv (i := 49) rfl (by decide) (Nat.le_of_ble_eq_true rfl) (fun v35 k35 => ?_)
  refine k35.ni 32 52 rfl rfl (by decide) (fun v36 k36 => ?_)
  refine k36.pv (i := 49) rfl (by decide) (Nat.le_of_ble_eq_true rfl) (fun v37 k37 => ?_)
  refine k37.ni 32 53 rfl rfl (by decide) (fun v38 k38 => ?_)
  refine k38.pv (i := 49) rfl (by decide) (Nat.le_of_ble_eq_true rfl) (fun v39 k39 => ?_)
  refine k39.nl 16 54 rfl rfl (by decide) (fun v40 k40 => ?_)
  refine k40.pv (i := 49) rfl (by decide) (Nat.le_of_ble_eq_true rfl) (fun v41 k41 => ?_)
  refine k41.ni 16 55 rfl rfl (by decide) (fun v42 k42 => ?_)
  refine k42.pv (i := 49) rfl (by decide) (Nat.le_of_ble_eq_true rfl) (fun v43 k43 => ?_)
  refine k43.ni 16 56 rfl rfl (by decide) (fun v44 k44 => ?_)
  refine k44.pv (i := 49) rfl (by decide) (Nat.le_of_ble_eq_true rfl) (fun v45 k45 => ?_)
  refine k45.ni 10 57 rfl rfl (by decide) (fun v46 k46 => ?_)
  refine k46.pv (i := 49) rfl (by decide) (Nat.le_of_ble_eq_true rfl) (fun v47 k47 => ?_)
  refine k47.ni 10 58 rfl rfl (by decide) (fun v48 k48 => ?_)
  refine k48.pv (i := 49) rfl (by decide) (Nat.le_of_ble_eq_true rfl) (fun v49 k49 => ?_)
  refine hK _ (k49.cast (by omega) ?_)
  repeat (refine all_t ?_ ?_; exact rfl)
  exact all_0
def fT (sz : Nat) (f : Nat → PE) : Nat → PE := fun j => if j < 58 then f j else if j = 58 then .inr (4, [.ref (sz + 30), .int 0, .int 0, .ref (sz + 59), .ref (sz + 60), .int 0, .ref (sz + 61), .ref (sz + 62), .ref (sz + 63), .ref (sz + 64)]) else if j < 63 then cI 64 (fun _ => 0) else cI 11 (fun _ => 0)
set_option maxHeartbeats 2000000 in
theorem q_T_init (h : CV sz 59 s f u) (h1 : f 58 = .inr (4, [.null, .int 0, .int 0, .null, .null, .int 0, .null, .null, .null, .null])) {K : PS → Prop} (hK : ∀ u' : PS, CV sz 65 (s + 278) (fT sz f) u' → K u') : p_T_init (sz + 58) (sz + 30) u K := by
  unfold p_T_init
  refine h.pv (i := 58) h1 (by decide) (Nat.le_of_ble_eq_true rfl) (fun v50 k50 => ?_)
  refine k50.ni 64 60 rfl rfl (by decide) (fun v51 k51 => ?_)
  refine k51.pv (i := 58) rfl (by decide) (Nat.le_of_ble_eq_true rfl) (fun v52 k52 => ?_)
  refine k52.ni 64 61 rfl rfl (by decide) (fun v53 k53 => ?_)
  refine k53.pv (i := 58) rfl (by decide) (Nat.le_of_ble_eq_true rfl) (fun v54 k54 => ?_)
  refine k54.pv (i := 58) rfl (by decide) (Nat.le_of_ble_eq_true rfl) (fun v55 k55 => ?_)
  refine k55.ni 64 62 rfl rfl (by decide) (fun v56 k56 => ?_)
  refine k56.pv (i := 58) rfl (by decide) (Nat.le_of_ble_eq_true rfl) (fun v57 k57 => ?_)
  refine k57.ni 64 63 rfl rfl (by decide) (fun v58 k58 => ?_)
  refine k58.pv (i := 58) rfl (by decide) (Nat.le_of_ble_eq_true rfl) (fun v59 k59 => ?_)
  refine k59.ni 11 64 rfl rfl (by decide) (fun v60 k60 => ?_)
  refine k60.pv (i := 58) rfl (by decide) (Nat.le_of_ble_eq_true rfl) (fun v61 k61 => ?_)
  refine k61.ni 11 65 rfl rfl (by decide) (fun v62 k62 => ?_)
  refine k62.pv (i := 58) rfl (by decide) (Nat.le_of_ble_eq_true rfl) (fun v63 k63 => ?_)
  refine hK _ (k63.cast (by omega) ?_)
  repeat (refine all_t ?_ ?_; exact rfl)
  exact all_0
theorem q_D_init_L61a {X : PS → Prop} : ∀ (d j : Nat) (u : PS) (f : Nat → PE) (fs : List Value), j + d = 10 → f 29 = .inr (0, fs) → fs[4]? = some (.ref (sz + 65)) → f 65 = cI 10 (op j) → CV sz 66 s f u → (∀ u' : PS, CV sz 66 s (va_up f 65 (cI 10 (op 10))) u' → X u') → p_D_init_L61 (sz + 29) X (d + 1) (nI j) u := by
  intro d
  induction d with
  | zero =>
    intro j u f fs hj h1 h2 h3 h hX
    rw [show j = 10 by omega] at h3 ⊢
    rw [p_D_init_L61]
    refine br_t (by decide) (hX u (h.cast rfl (fun i hi => ?_)))
    by_cases c : i = 65
    · subst c; rw [up_eq]; exact h3
    · rw [up_ne _ _ c]
  | succ d ih =>
    intro j u f fs hj h1 h2 h3 h hX
    rw [p_D_init_L61]
    refine br_f (fun q => absurd (show nI 10 ≤ nI j from q) (Int32.not_le.mpr (nI_lt (by omega) (by omega)))) ⟨_, h.fr (i := 29) h1 (by decide) h2, ?_⟩
    refine h.is (i := 65) (j := j) (v := j) h3 (by decide) rfl rfl (by omega) (by decide) (fun u1 k1 => nm_e ?_)
    rw [show (1 : Int32) = nI 1 from rfl, nI_add]
    refine ih (j + 1) u1 _ fs (by omega) (by rw [up_ne _ _ (by decide)]; exact h1) h2 (up_eq _ _ _) k1 (fun u2 k2 => hX u2 ?_)
    rw [bx_uu] at k2
    exact k2
theorem q_D_init_L61 (h : CV sz 66 s f u) {fs : List Value} (h1 : f 29 = .inr (0, fs)) (h2 : fs[4]? = some (.ref (sz + 65))) (h3 : f 65 = cI 10 (op 0)) {X : PS → Prop} (hX : ∀ u' : PS, CV sz 66 s (va_up f 65 (cI 10 (op 10))) u' → X u') : p_D_init_L61 (sz + 29) X (10 + 1) (nI 0) u := q_D_init_L61a 10 0 u f fs rfl h1 h2 h3 h hX
theorem q_M_init_L99a {X : PS → Prop} : ∀ (d j : Nat) (u : PS) (f : Nat → PE) (fs : List Value), j + d = 10 → f 69 = .inr (6, fs) → fs[3]? = some (.ref (sz + 72)) → f 72 = cI 10 (op j) → CV sz 81 s f u → (∀ u' : PS, CV sz 81 s (va_up f 72 (cI 10 (op 10))) u' → X u') → p_M_init_L99 (sz + 69) X (d + 1) (nI j) u := by
  intro d
  induction d with
  | zero =>
    intro j u f fs hj h1 h2 h3 h hX
    rw [show j = 10 by omega] at h3 ⊢
    rw [p_M_init_L99]
    refine br_t (by decide) (hX u (h.cast rfl (fun i hi => ?_)))
    by_cases c : i = 72
    · subst c; rw [up_eq]; exact h3
    · rw [up_ne _ _ c]
  | succ d ih =>
    intro j u f fs hj h1 h2 h3 h hX
    rw [p_M_init_L99]
    refine br_f (fun q => absurd (show nI 10 ≤ nI j from q) (Int32.not_le.mpr (nI_lt (by omega) (by omega)))) ⟨_, h.fr (i := 69) h1 (by decide) h2, ?_⟩
    refine h.is (i := 72) (j := j) (v := j) h3 (by decide) rfl rfl (by omega) (by decide) (fun u1 k1 => nm_e ?_)
    rw [show (1 : Int32) = nI 1 from rfl, nI_add]
    refine ih (j + 1) u1 _ fs (by omega) (by rw [up_ne _ _ (by decide)]; exact h1) h2 (up_eq _ _ _) k1 (fun u2 k2 => hX u2 ?_)
    rw [bx_uu] at k2
    exact k2
theorem q_M_init_L99 (h : CV sz 81 s f u) {fs : List Value} (h1 : f 69 = .inr (6, fs)) (h2 : fs[3]? = some (.ref (sz + 72))) (h3 : f 72 = cI 10 (op 0)) {X : PS → Prop} (hX : ∀ u' : PS, CV sz 81 s (va_up f 72 (cI 10 (op 10))) u' → X u') : p_M_init_L99 (sz + 69) X (10 + 1) (nI 0) u := q_M_init_L99a 10 0 u f fs rfl h1 h2 h3 h hX
def fD (sz : Nat) (f : Nat → PE) : Nat → PE := fun j => if j = 29 then .inr (0, [.ref (sz + 1), .ref (sz + 30), .ref (sz + 49), .ref (sz + 58), .ref (sz + 65), .ref (sz + 66), .int 0, .ref (sz + 67), .int 1, .ref (sz + 68), .int 0, .int 0, .int 0]) else if j = 65 then cI 10 (op 10) else if j = 66 then cI 24 (fun _ => 0) else if 66 < j then cI 10 (fun _ => 0) else fT sz (fG sz (fN sz f)) j
set_option maxHeartbeats 4000000 in
theorem q_D_init (h : CV sz 30 s f u) (h1 : f 29 = .inr (0, [.null, .null, .null, .null, .null, .null, .int 0, .null, .int 0, .null, .int 0, .int 0, .int 0])) {K : PS → Prop} (hK : ∀ u' : PS, CV sz 69 (s + 991) (fD sz f) u' → K u') : p_D_init (sz + 29) (sz + 1) u K := by
  unfold p_D_init
  refine h.pv (i := 29) h1 (by decide) (Nat.le_of_ble_eq_true rfl) (fun a1 b1 => ?_)
  refine b1.no 31 rfl (fun a2 b2 => ?_)
  refine q_N_init b2 rfl (fun a3 b3 => ?_)
  refine b3.pv (i := 29) rfl (by decide) (Nat.le_of_ble_eq_true rfl) (fun a4 b4 => ?_)
  refine b4.no 50 rfl (fun a5 b5 => ?_)
  refine ⟨_, b5.fr (i := 29) rfl (by decide) rfl, ?_⟩
  refine q_G_init b5 rfl (fun a6 b6 => ?_)
  refine b6.pv (i := 29) rfl (by decide) (Nat.le_of_ble_eq_true rfl) (fun a7 b7 => ?_)
  refine b7.no 59 rfl (fun a8 b8 => ?_)
  refine ⟨_, b8.fr (i := 29) rfl (by decide) rfl, ?_⟩
  refine q_T_init b8 rfl (fun a9 b9 => ?_)
  refine b9.pv (i := 29) rfl (by decide) (Nat.le_of_ble_eq_true rfl) (fun a10 b10 => ?_)
  refine b10.ni 10 66 rfl rfl (by decide) (fun a11 b11 => ?_)
  refine b11.pv (i := 29) rfl (by decide) (Nat.le_of_ble_eq_true rfl) (fun a12 b12 => ?_)
  refine ⟨10 + 1, ?_⟩
  refine q_D_init_L61 b12 rfl rfl rfl (fun a13 b13 => ?_)
  unfold p_D_init_J80
  refine b13.ni 24 67 rfl rfl (by decide) (fun a14 b14 => ?_)
  refine b14.pv (i := 29) rfl (by decide) (Nat.le_of_ble_eq_true rfl) (fun a15 b15 => ?_)
  refine b15.pv (i := 29) rfl (by decide) (Nat.le_of_ble_eq_true rfl) (fun a16 b16 => ?_)
  refine b16.ni 10 68 rfl rfl (by decide) (fun a17 b17 => ?_)
  refine b17.pv (i := 29) rfl (by decide) (Nat.le_of_ble_eq_true rfl) (fun a18 b18 => ?_)
  refine ⟨Or.inr rfl, ?_⟩
  refine b18.pv (i := 29) rfl (by decide) (Nat.le_of_ble_eq_true rfl) (fun a19 b19 => ?_)
  refine b19.ni 10 69 rfl rfl (by decide) (fun a20 b20 => ?_)
  refine b20.pv (i := 29) rfl (by decide) (Nat.le_of_ble_eq_true rfl) (fun a21 b21 => ?_)
  refine hK _ (b21.cast (by simp only [List.length_cons, List.length_nil]) ?_)
  repeat (refine all_t ?_ ?_; exact rfl)
  exact all_0
def fH (sz : Nat) (f : Nat → PE) : Nat → PE := fun j => if j = 0 then .inr (5, [.ref (sz + 1), .ref (sz + 29)]) else if j < 29 then fF sz f j else fD sz f j
set_option maxHeartbeats 4000000 in
theorem q_H_init (h : CV sz 1 s f u) (h1 : f 0 = .inr (5, [.null, .null])) {K : PS → Prop} (hK : ∀ u' : PS, CV sz 69 (s + 1457) (fH sz f) u' → K u') : p_H_init (sz + 0) u K := by
  unfold p_H_init
  refine h.no 2 rfl (fun a1 b1 => ?_)
  refine q_F_init b1 rfl (fun a2 b2 => ?_)
  refine b2.pv (i := 0) (fs := [.null, .null]) h1 (by decide) (Nat.le_of_ble_eq_true rfl) (fun a3 b3 => ?_)
  refine b3.no 30 rfl (fun a4 b4 => ?_)
  refine ⟨_, b4.fr (i := 0) rfl (by decide) rfl, ?_⟩
  refine q_D_init b4 rfl (fun a5 b5 => ?_)
  refine b5.pv (i := 0) rfl (by decide) (Nat.le_of_ble_eq_true rfl) (fun a6 b6 => ?_)
  refine hK _ (b6.cast (by simp only [List.length_cons, List.length_nil]) ?_)
  repeat (refine all_t ?_ ?_; exact rfl)
  exact all_0
def fM (sz : Nat) (f : Nat → PE) : Nat → PE := fun j => if j < 69 then f j else if j = 69 then .inr (6, [.int 0, .ref (sz + 70), .ref (sz + 71), .ref (sz + 72), .ref (sz + 73), .int 0, .ref (sz + 74), .ref (sz + 75), .ref (sz + 76), .ref (sz + 77), .int 0, .ref (sz + 78), .ref (sz + 79), .ref (sz + 80)]) else if j = 70 then .inl (4, 24576, .inl (fun _ => 0)) else if j = 71 then .inl (4, 1024, .inl (fun _ => 0)) else if j = 72 then cI 10 (op 10) else if j < 76 then cI 24576 (fun _ => 0) else if j < 78 then cI 65536 (fun _ => 0) else if j < 80 then cI 10 (fun _ => 0) else .inl (4, 10, .inl (fun _ => 0))
set_option maxHeartbeats 4000000 in
theorem q_M_init (h : CV sz 70 s f u) (h1 : f 69 = .inr (6, [.int 0, .null, .null, .null, .null, .int 0, .null, .null, .null, .null, .int 0, .null, .null, .null])) {K : PS → Prop} (hK : ∀ u' : PS, CV sz 81 (s + 230440) (fM sz f) u' → K u') : p_M_init (sz + 69) u K := by
  unfold p_M_init
  refine h.nz 24576 71 rfl rfl (by decide) (fun v64 k64 => ?_)
  refine k64.pv (i := 69) h1 (by decide) (Nat.le_of_ble_eq_true rfl) (fun v65 k65 => ?_)
  refine k65.nz 1024 72 rfl rfl (by decide) (fun v66 k66 => ?_)
  refine k66.pv (i := 69) rfl (by decide) (Nat.le_of_ble_eq_true rfl) (fun v67 k67 => ?_)
  refine k67.ni 10 73 rfl rfl (by decide) (fun v68 k68 => ?_)
  refine k68.pv (i := 69) rfl (by decide) (Nat.le_of_ble_eq_true rfl) (fun v69 k69 => ?_)
  refine k69.ni 24576 74 rfl rfl (by decide) (fun v70 k70 => ?_)
  refine k70.pv (i := 69) rfl (by decide) (Nat.le_of_ble_eq_true rfl) (fun v71 k71 => ?_)
  refine k71.ni 24576 75 rfl rfl (by decide) (fun v72 k72 => ?_)
  refine k72.pv (i := 69) rfl (by decide) (Nat.le_of_ble_eq_true rfl) (fun v73 k73 => ?_)
  refine k73.ni 24576 76 rfl rfl (by decide) (fun v74 k74 => ?_)
  refine k74.pv (i := 69) rfl (by decide) (Nat.le_of_ble_eq_true rfl) (fun v75 k75 => ?_)
  refine k75.ni 65536 77 rfl rfl (by decide) (fun v76 k76 => ?_)
  refine k76.pv (i := 69) rfl (by decide) (Nat.le_of_ble_eq_true rfl) (fun v77 k77 => ?_)
  refine k77.ni 65536 78 rfl rfl (by decide) (fun v78 k78 => ?_)
  refine k78.pv (i := 69) rfl (by decide) (Nat.le_of_ble_eq_true rfl) (fun v79 k79 => ?_)
  refine k79.ni 10 79 rfl rfl (by decide) (fun v80 k80 => ?_)
  refine k80.pv (i := 69) rfl (by decide) (Nat.le_of_ble_eq_true rfl) (fun v81 k81 => ?_)
  refine k81.ni 10 80 rfl rfl (by decide) (fun v82 k82 => ?_)
  refine k82.pv (i := 69) rfl (by decide) (Nat.le_of_ble_eq_true rfl) (fun v83 k83 => ?_)
  refine k83.nz 10 81 rfl rfl (by decide) (fun v84 k84 => ?_)
  refine k84.pv (i := 69) rfl (by decide) (Nat.le_of_ble_eq_true rfl) (fun v85 k85 => ?_)
  refine ⟨10 + 1, ?_⟩
  refine q_M_init_L99 k85 rfl rfl rfl (fun a13 b13 => ?_)
  refine hK _ (b13.cast (by omega) ?_)
  iterate 12 (refine all_t ?_ ?_; exact rfl)
  intro i hi
  repeat (rw [up_ne _ _ (by omega)])
  exact (if_pos hi).symm
end CVs
