set_option maxRecDepth 100000 in
set_option maxHeartbeats 4000000 in
theorem t_M_count_J49 (l : Launch) (Z : XZ) (u0 : PS) {Kv : Option Value → PS → Prop} {R : Int32 → Int32 → PS → Prop} {E56 : Int32 → PS → Prop} (x0 : Nat) (x1 : Int32) (x3 : Int32) (s0 : Int32) (u : PS) (hR : ∀ (y2 : Int32) (y3 : Int32) (v : PS), R y2 y3 v → XN l Z i_M_count u0 Kv v 26 [(0, .ref x0), (1, .int x1), (2, .int y2), (3, .int y3)] []) (hE56 : ∀ (y2 : Int32) (v : PS), E56 y2 v → XN l Z i_M_count u0 Kv v 56 [(2, .int y2)] []) (k : (p_M_count_J49 R E56 x0 x1 x3 s0 u)) : XN l Z i_M_count u0 Kv u 49 [(0, .ref x0), (1, .int x1), (3, .int x3)] [.int s0] := by
  unfold p_M_count_J49 at k
  obtain ⟨y1, ey1⟩ : ∃ y9 : Int32, y9 = x3 + 1 := ⟨_, rfl⟩
  have k := k y1 ey1
  obtain ⟨rv, v9, hK, hle_u, w9⟩ := hR s0 y1 u k
  refine ⟨rv, v9, hK, hle_u, ?_⟩
  intro p e s m args below meth c A H locs ls F hw hl
  obtain ⟨⟨hx, hb, hml, hown, hts⟩, hr, hlocks, hmn⟩ := id F
  refine lv_istore_n (lv' := [(2, .int s0), (0, .ref x0), (1, .int x1), (3, .int x3)]) hx hb d_M_count_49 rfl hl (by decide) rfl (fun ls hl => ?_)
  refine lv_iinc (v := y1) (lv' := [(3, .int y1), (2, .int s0), (0, .ref x0), (1, .int x1)]) hx hb d_M_count_50 hl (k := 3) rfl (by subst ey1; rfl) (by decide) rfl (fun ls hl => ?_)
  refine lv_goto (tgt := 26) hx hb d_M_count_53 (by decide) ?_
  exact w9 p e s m args below meth c A H locs ls F hw (lv_sub hl [2, 3, 1, 0] rfl)
set_option maxRecDepth 100000 in
set_option maxHeartbeats 4000000 in
theorem t_M_count_L26 (l : Launch) (Z : XZ) (u0 : PS) {Kv : Option Value → PS → Prop} {E56 : Int32 → PS → Prop} (x0 : Nat) (x1 : Int32) (hE56 : ∀ (y2 : Int32) (v : PS), E56 y2 v → XN l Z i_M_count u0 Kv v 56 [(2, .int y2)] []) : ∀ (n : Nat) (x2 : Int32) (x3 : Int32) (u : PS), p_M_count_L26 x0 x1 E56 n x2 x3 u → XN l Z i_M_count u0 Kv u 26 [(0, .ref x0), (1, .int x1), (2, .int x2), (3, .int x3)] [] := by
  intro n
  induction n with
  | zero => intro x2 x3 u k; exact False.elim k
  | succ n ih =>
    intro x2 x3 u k
    rw [p_M_count_L26] at k
    by_cases hc1 : 1024 ≤ x3
    · have k := k.1 hc1
      obtain ⟨rv, v9, hK, hle_u, w9⟩ := hE56 x2 u k
      refine ⟨rv, v9, hK, hle_u, ?_⟩
      intro p e s m args below meth c A H locs ls F hw hl
      obtain ⟨⟨hx, hb, hml, hown, hts⟩, hr, hlocks, hmn⟩ := id F
      refine lv_iload_n hx hb d_M_count_26 rfl (lv_at hl 3 rfl) ?_
      refine lv_sipush (v := 1024) hx hb d_M_count_27 (by decide) ?_
      refine lv_icmp_ge (tgt := 56) hx hb d_M_count_30 (by decide) (fun _ => ?_) (fun c9 => absurd hc1 c9)
      exact w9 p e s m args below meth c A H locs ls F hw (lv_sub hl [2] rfl)
    · have k := k.2 hc1
      obtain ⟨h3, k⟩ := k
      obtain ⟨_, u_15, ⟨r_16, rfl, k⟩, hM2⟩ := c_M_is l Z x0 x1 x3 u _ k
      by_cases hc4 : r_16 = 0
      · have k := k.1 hc4
        obtain ⟨rv, v9, hK, hle_u_15, w9⟩ := t_M_count_J49 l Z u0 x0 x1 x3 x2 u_15 ih hE56 k
        have hle_u : x_le u v9 := (hM2.1).tr hle_u_15
        refine ⟨rv, v9, hK, hle_u, ?_⟩
        intro p e s m args below meth c A H locs ls F hw hl
        obtain ⟨⟨hx, hb, hml, hown, hts⟩, hr, hlocks, hmn⟩ := id F
        refine lv_iload_n hx hb d_M_count_26 rfl (lv_at hl 3 rfl) ?_
        refine lv_sipush (v := 1024) hx hb d_M_count_27 (by decide) ?_
        refine lv_icmp_ge (tgt := 56) hx hb d_M_count_30 (by decide) (fun c9 => absurd c9 hc1) (fun _ => ?_)
        refine lv_aload_n hx hb d_M_count_33 rfl (lv_at hl 0 rfl) ?_
        refine lv_iload_n hx hb d_M_count_34 rfl (lv_at hl 1 rfl) ?_
        refine lv_iload_n hx hb d_M_count_35 rfl (lv_at hl 3 rfl) ?_
        refine xr_cV (As := [.int x1, .int x3]) (rest := []) ⟨hx, hb, hml, hown, hts⟩ hw hM2 hle_u_15 (fun _ _ => ⟨callB_of 2 hts (xgood w_944) rfl rfl rfl (hts _ (xm w_8)) (hts _ (xm w_941)) ⟨by decide, by decide, by decide +kernel⟩ ⟨Nat.le_of_ble_eq_true rfl, Nat.le_of_ble_eq_true rfl⟩, (hts _ (xm w_943)), (hts _ (xm wp_39))⟩) (qc := (R_M, F_M, 14)) rfl rfl h3 rfl hl.1 rfl (Nat.le_of_ble_eq_true rfl) d_M_count_36 (fun H locs hw => ?_)
        refine W.eq (g2 := F0 m 39 ls [.int r_16]) rfl ?_
        refine lv_if_eq (tgt := 48) hx hb d_M_count_39 (by decide) (fun _ => ?_) (fun c9 => absurd hc4 c9)
        refine lv_iload_n hx hb d_M_count_48 rfl (lv_at hl 2 rfl) ?_
        exact w9 p e s m args below meth c A H locs ls F hw (lv_sub hl [0, 1, 3] rfl)
      · have k := k.2 hc4
        obtain ⟨rv, v9, hK, hle_u_15, w9⟩ := t_M_count_J49 l Z u0 x0 x1 x3 (x2 + (1 : Int32)) u_15 ih hE56 k
        have hle_u : x_le u v9 := (hM2.1).tr hle_u_15
        refine ⟨rv, v9, hK, hle_u, ?_⟩
        intro p e s m args below meth c A H locs ls F hw hl
        obtain ⟨⟨hx, hb, hml, hown, hts⟩, hr, hlocks, hmn⟩ := id F
        refine lv_iload_n hx hb d_M_count_26 rfl (lv_at hl 3 rfl) ?_
        refine lv_sipush (v := 1024) hx hb d_M_count_27 (by decide) ?_
        refine lv_icmp_ge (tgt := 56) hx hb d_M_count_30 (by decide) (fun c9 => absurd c9 hc1) (fun _ => ?_)
        refine lv_aload_n hx hb d_M_count_33 rfl (lv_at hl 0 rfl) ?_
        refine lv_iload_n hx hb d_M_count_34 rfl (lv_at hl 1 rfl) ?_
        refine lv_iload_n hx hb d_M_count_35 rfl (lv_at hl 3 rfl) ?_
        refine xr_cV (As := [.int x1, .int x3]) (rest := []) ⟨hx, hb, hml, hown, hts⟩ hw hM2 hle_u_15 (fun _ _ => ⟨callB_of 2 hts (xgood w_944) rfl rfl rfl (hts _ (xm w_8)) (hts _ (xm w_941)) ⟨by decide, by decide, by decide +kernel⟩ ⟨Nat.le_of_ble_eq_true rfl, Nat.le_of_ble_eq_true rfl⟩, (hts _ (xm w_943)), (hts _ (xm wp_39))⟩) (qc := (R_M, F_M, 14)) rfl rfl h3 rfl hl.1 rfl (Nat.le_of_ble_eq_true rfl) d_M_count_36 (fun H locs hw => ?_)
        refine W.eq (g2 := F0 m 39 ls [.int r_16]) rfl ?_
        refine lv_if_eq (tgt := 48) hx hb d_M_count_39 (by decide) (fun c9 => absurd c9 hc4) (fun _ => ?_)
        refine lv_iload_n hx hb d_M_count_42 rfl (lv_at hl 2 rfl) ?_
        refine lv_iconst (v := 1) hx hb d_M_count_43 (by decide) ?_
        refine lv_iadd hx hb d_M_count_44 ?_
        refine lv_goto (tgt := 49) hx hb d_M_count_45 (by decide) ?_
        exact w9 p e s m args below meth c A H locs ls F hw (lv_sub hl [0, 1, 3] rfl)
set_option maxRecDepth 100000 in
set_option maxHeartbeats 4000000 in
theorem t_M_count_J13 (l : Launch) (Z : XZ) (u0 : PS) {K : Int32 → PS → Prop} (x0 : Nat) (x1 : Int32) (s0 : Nat) (s1 : Int32) (u : PS) (k : (p_M_count_J13 K x0 x1 s0 s1 u)) : XN l Z i_M_count u0 (kI K) u 13 [(0, .ref x0), (1, .int x1)] [.int s1, .ref s0] := by
  unfold p_M_count_J13 at k
  obtain ⟨h2, k⟩ := k
  obtain ⟨_, u_13, ⟨r_14, rfl, k⟩, hM1⟩ := c_M_refuse l Z s0 s1 (0 : Int32) u _ k
  by_cases hc3 : r_14 = 0
  · have k := k.1 hc3
    obtain ⟨n4, k⟩ := k
    have hx7 : ∀ (y2_5 : Int32) (v6 : PS), (K y2_5 v6) → XN l Z i_M_count u0 (kI K) v6 56 [(2, .int y2_5)] [] := by
      intro y2_5 v6 k
      have hle_v6 : x_le v6 v6 := x_le.rf v6
      refine ⟨some (.int y2_5), v6, ⟨y2_5, rfl, k⟩, hle_v6, ?_⟩
      intro p e s m args below meth c A H locs ls F hw hl
      obtain ⟨⟨hx, hb, hml, hown, hts⟩, hr, hlocks, hmn⟩ := id F
      refine lv_iload_n hx hb d_M_count_56 rfl (lv_at hl 0 rfl) ?_
      exact xr_iret F rfl hw d_M_count_57
    obtain ⟨rv, v9, hK, hle_u_13, w9⟩ := t_M_count_L26 l Z u0 x0 x1 hx7 n4 (0 : Int32) (0 : Int32) u_13 k
    have hle_u : x_le u v9 := (hM1.1).tr hle_u_13
    refine ⟨rv, v9, hK, hle_u, ?_⟩
    intro p e s m args below meth c A H locs ls F hw hl
    obtain ⟨⟨hx, hb, hml, hown, hts⟩, hr, hlocks, hmn⟩ := id F
    refine lv_iconst (v := 0) hx hb d_M_count_13 (by decide) ?_
    refine xr_cV (As := [.int s1, .int 0]) (rest := []) ⟨hx, hb, hml, hown, hts⟩ hw hM1 hle_u_13 (fun _ _ => ⟨callB_of 2 hts (xgood w_929) rfl rfl rfl (hts _ (xm w_8)) (hts _ (xm w_926)) ⟨by decide, by decide, by decide +kernel⟩ ⟨Nat.le_of_ble_eq_true rfl, Nat.le_of_ble_eq_true rfl⟩, (hts _ (xm w_928)), (hts _ (xm wp_38))⟩) (qc := (R_M, F_M, 14)) rfl rfl h2 rfl hl.1 rfl (Nat.le_of_ble_eq_true rfl) d_M_count_14 (fun H locs hw => ?_)
    refine W.eq (g2 := F0 m 17 ls [.int r_14]) rfl ?_
    refine lv_if_eq (tgt := 22) hx hb d_M_count_17 (by decide) (fun _ => ?_) (fun c9 => absurd hc3 c9)
    refine lv_iconst (v := 0) hx hb d_M_count_22 (by decide) ?_
    refine lv_istore_n (lv' := [(2, .int 0), (0, .ref x0), (1, .int x1)]) hx hb d_M_count_23 rfl hl (by decide) rfl (fun ls hl => ?_)
    refine lv_iconst (v := 0) hx hb d_M_count_24 (by decide) ?_
    refine lv_istore_n (lv' := [(3, .int 0), (2, .int 0), (0, .ref x0), (1, .int x1)]) hx hb d_M_count_25 rfl hl (by decide) rfl (fun ls hl => ?_)
    exact w9 p e s m args below meth c A H locs ls F hw (lv_sub hl [2, 3, 1, 0] rfl)
  · have k := k.2 hc3
    have hle_u_13 : x_le u_13 u_13 := x_le.rf u_13
    have hle_u : x_le u u_13 := (hM1.1).tr hle_u_13
    refine ⟨some (.int 0), u_13, ⟨(0 : Int32), rfl, k⟩, hle_u, ?_⟩
    intro p e s m args below meth c A H locs ls F hw hl
    obtain ⟨⟨hx, hb, hml, hown, hts⟩, hr, hlocks, hmn⟩ := id F
    refine lv_iconst (v := 0) hx hb d_M_count_13 (by decide) ?_
    refine xr_cV (As := [.int s1, .int 0]) (rest := []) ⟨hx, hb, hml, hown, hts⟩ hw hM1 hle_u_13 (fun _ _ => ⟨callB_of 2 hts (xgood w_929) rfl rfl rfl (hts _ (xm w_8)) (hts _ (xm w_926)) ⟨by decide, by decide, by decide +kernel⟩ ⟨Nat.le_of_ble_eq_true rfl, Nat.le_of_ble_eq_true rfl⟩, (hts _ (xm w_928)), (hts _ (xm wp_38))⟩) (qc := (R_M, F_M, 14)) rfl rfl h2 rfl hl.1 rfl (Nat.le_of_ble_eq_true rfl) d_M_count_14 (fun H locs hw => ?_)
    refine W.eq (g2 := F0 m 17 ls [.int r_14]) rfl ?_
    refine lv_if_eq (tgt := 22) hx hb d_M_count_17 (by decide) (fun c9 => absurd c9 hc3) (fun _ => ?_)
    refine lv_iconst (v := 0) hx hb d_M_count_20 (by decide) ?_
    exact xr_iret F rfl hw d_M_count_21
set_option maxRecDepth 100000 in
set_option maxHeartbeats 4000000 in
theorem c_M_count (l : Launch) (Z : XZ) (x0 : Nat) (x1 : Int32) (u : PS) (K : Int32 → PS → Prop) (k : p_M_count x0 x1 u K) : ∃ (rv : Option Value) (u1 : PS), (kI K) rv u1 ∧ XMet l Z i_M_count [.ref x0, .int x1] u rv u1 := by
  refine x_met (by decide) rfl (Nat.le_of_ble_eq_true rfl) ?_
  show XN l Z i_M_count u (kI K) u 0 [(0, .ref x0), (1, .int x1)] []
  unfold p_M_count at k
  obtain ⟨_, u_11, ⟨r_12, rfl, k⟩, hM1⟩ := c_M_isPlace l Z x1 u _ k
  by_cases hc2 : r_12 = 0
  · have k := k.2 hc2
    obtain ⟨rv, v9, hK, hle_u_11, w9⟩ := t_M_count_J13 l Z u x0 x1 x0 (1 : Int32) u_11 k
    have hle_u : x_le u v9 := (hM1.1).tr hle_u_11
    refine ⟨rv, v9, hK, hle_u, ?_⟩
    intro p e s m args below meth c A H locs ls F hw hl
    obtain ⟨⟨hx, hb, hml, hown, hts⟩, hr, hlocks, hmn⟩ := id F
    refine lv_aload_n hx hb d_M_count_0 rfl (lv_at hl 0 rfl) ?_
    refine lv_iload_n hx hb d_M_count_1 rfl (lv_at hl 1 rfl) ?_
    refine xr_cS (As := [.int x1]) (rest := [.ref x0]) ⟨hx, hb, hml, hown, hts⟩ hw hM1 hle_u_11 (fun _ _ => ⟨callB_of 1 hts (xgood w_922) rfl rfl rfl (hts _ (xm w_8)) (hts _ (xm w_920)) ⟨by decide, by decide, by decide +kernel⟩ ⟨Nat.le_of_ble_eq_true rfl, Nat.le_of_ble_eq_true rfl⟩, (hts _ (xm w_921))⟩) rfl hl.1 rfl (Nat.le_of_ble_eq_true rfl) d_M_count_2 (fun H locs hw => ?_)
    refine W.eq (g2 := F0 m 5 ls [.int r_12, .ref x0]) rfl ?_
    refine lv_if_ne (tgt := 12) hx hb d_M_count_5 (by decide) (fun c9 => absurd hc2 c9) (fun _ => ?_)
    refine lv_iconst (v := 1) hx hb d_M_count_8 (by decide) ?_
    refine lv_goto (tgt := 13) hx hb d_M_count_9 (by decide) ?_
    exact w9 p e s m args below meth c A H locs ls F hw (lv_sub hl [0, 1] rfl)
  · have k := k.1 hc2
    obtain ⟨rv, v9, hK, hle_u_11, w9⟩ := t_M_count_J13 l Z u x0 x1 x0 (0 : Int32) u_11 k
    have hle_u : x_le u v9 := (hM1.1).tr hle_u_11
    refine ⟨rv, v9, hK, hle_u, ?_⟩
    intro p e s m args below meth c A H locs ls F hw hl
    obtain ⟨⟨hx, hb, hml, hown, hts⟩, hr, hlocks, hmn⟩ := id F
    refine lv_aload_n hx hb d_M_count_0 rfl (lv_at hl 0 rfl) ?_
    refine lv_iload_n hx hb d_M_count_1 rfl (lv_at hl 1 rfl) ?_
    refine xr_cS (As := [.int x1]) (rest := [.ref x0]) ⟨hx, hb, hml, hown, hts⟩ hw hM1 hle_u_11 (fun _ _ => ⟨callB_of 1 hts (xgood w_922) rfl rfl rfl (hts _ (xm w_8)) (hts _ (xm w_920)) ⟨by decide, by decide, by decide +kernel⟩ ⟨Nat.le_of_ble_eq_true rfl, Nat.le_of_ble_eq_true rfl⟩, (hts _ (xm w_921))⟩) rfl hl.1 rfl (Nat.le_of_ble_eq_true rfl) d_M_count_2 (fun H locs hw => ?_)
    refine W.eq (g2 := F0 m 5 ls [.int r_12, .ref x0]) rfl ?_
    refine lv_if_ne (tgt := 12) hx hb d_M_count_5 (by decide) (fun _ => ?_) (fun c9 => absurd c9 hc2)
    refine lv_iconst (v := 0) hx hb d_M_count_12 (by decide) ?_
    exact w9 p e s m args below meth c A H locs ls F hw (lv_sub hl [0, 1] rfl)
set_option maxRecDepth 100000 in
set_option maxHeartbeats 4000000 in
theorem t_M_value_J36 (l : Launch) (Z : XZ) (u0 : PS) {K : Int32 → PS → Prop} (x0 : Nat) (x1 : Int32) (x2 : Int32) (s0 : Nat) (s1 : Int32) (s2 : Int32) (u : PS) (k : (p_M_value_J36 K x0 x1 x2 s0 s1 s2 u)) : XN l Z i_M_value u0 (kI K) u 36 [(0, .ref x0), (1, .int x1), (2, .int x2)] [.int s2, .int s1, .ref s0] := by
  unfold p_M_value_J36 at k
  obtain ⟨h2, k⟩ := k
  obtain ⟨_, u_15, ⟨r_16, rfl, k⟩, hM1⟩ := c_M_refuse l Z s0 s1 s2 u _ k
  by_cases hc3 : r_16 = 0
  · have k := k.1 hc3
    obtain ⟨h5, k⟩ := k
    obtain ⟨_, u_17, ⟨r_18, rfl, k⟩, hM4⟩ := c_M_is l Z x0 x1 x2 u_15 _ k
    obtain ⟨hz9, k⟩ := k
    have hle_u_17 : x_le u_17 u_17 := x_le.rf u_17
    have hle_u_15 : x_le u_15 u_17 := (hM4.1).tr hle_u_17
    have hle_u : x_le u u_17 := (hM1.1).tr hle_u_15
    refine ⟨some (.int r_18), u_17, ⟨r_18, rfl, k⟩, hle_u, ?_⟩
    intro p e s m args below meth c A H locs ls F hw hl
    obtain ⟨⟨hx, hb, hml, hown, hts⟩, hr, hlocks, hmn⟩ := id F
    refine xr_cV (As := [.int s1, .int s2]) (rest := []) ⟨hx, hb, hml, hown, hts⟩ hw hM1 hle_u_15 (fun _ _ => ⟨callB_of 2 hts (xgood w_929) rfl rfl rfl (hts _ (xm w_8)) (hts _ (xm w_926)) ⟨by decide, by decide, by decide +kernel⟩ ⟨Nat.le_of_ble_eq_true rfl, Nat.le_of_ble_eq_true rfl⟩, (hts _ (xm w_928)), (hts _ (xm wp_38))⟩) (qc := (R_M, F_M, 14)) rfl rfl h2 rfl hl.1 rfl (Nat.le_of_ble_eq_true rfl) d_M_value_36 (fun H locs hw => ?_)
    refine W.eq (g2 := F0 m 39 ls [.int r_16]) rfl ?_
    refine lv_if_eq (tgt := 44) hx hb d_M_value_39 (by decide) (fun _ => ?_) (fun c9 => absurd hc3 c9)
    refine lv_aload_n hx hb d_M_value_44 rfl (lv_at hl 0 rfl) ?_
    refine lv_iload_n hx hb d_M_value_45 rfl (lv_at hl 1 rfl) ?_
    refine lv_iload_n hx hb d_M_value_46 rfl (lv_at hl 2 rfl) ?_
    refine xr_cV (As := [.int x1, .int x2]) (rest := []) ⟨hx, hb, hml, hown, hts⟩ hw hM4 hle_u_17 (fun _ _ => ⟨callB_of 2 hts (xgood w_944) rfl rfl rfl (hts _ (xm w_8)) (hts _ (xm w_941)) ⟨by decide, by decide, by decide +kernel⟩ ⟨Nat.le_of_ble_eq_true rfl, Nat.le_of_ble_eq_true rfl⟩, (hts _ (xm w_943)), (hts _ (xm wp_39))⟩) (qc := (R_M, F_M, 14)) rfl rfl h5 rfl hl.1 rfl (Nat.le_of_ble_eq_true rfl) d_M_value_47 (fun H locs hw => ?_)
    refine W.eq (g2 := F0 m 50 ls [.int r_18]) rfl ?_
    exact xr_zret F rfl hz9 hw d_M_value_50
  · have k := k.2 hc3
    obtain ⟨hz9, k⟩ := k
    have hle_u_15 : x_le u_15 u_15 := x_le.rf u_15
    have hle_u : x_le u u_15 := (hM1.1).tr hle_u_15
    refine ⟨some (.int 0), u_15, ⟨(0 : Int32), rfl, k⟩, hle_u, ?_⟩
    intro p e s m args below meth c A H locs ls F hw hl
    obtain ⟨⟨hx, hb, hml, hown, hts⟩, hr, hlocks, hmn⟩ := id F
    refine xr_cV (As := [.int s1, .int s2]) (rest := []) ⟨hx, hb, hml, hown, hts⟩ hw hM1 hle_u_15 (fun _ _ => ⟨callB_of 2 hts (xgood w_929) rfl rfl rfl (hts _ (xm w_8)) (hts _ (xm w_926)) ⟨by decide, by decide, by decide +kernel⟩ ⟨Nat.le_of_ble_eq_true rfl, Nat.le_of_ble_eq_true rfl⟩, (hts _ (xm w_928)), (hts _ (xm wp_38))⟩) (qc := (R_M, F_M, 14)) rfl rfl h2 rfl hl.1 rfl (Nat.le_of_ble_eq_true rfl) d_M_value_36 (fun H locs hw => ?_)
    refine W.eq (g2 := F0 m 39 ls [.int r_16]) rfl ?_
    refine lv_if_eq (tgt := 44) hx hb d_M_value_39 (by decide) (fun c9 => absurd c9 hc3) (fun _ => ?_)
    refine lv_iconst (v := 0) hx hb d_M_value_42 (by decide) ?_
    exact xr_zret F rfl hz9 hw d_M_value_43
set_option maxRecDepth 100000 in
set_option maxHeartbeats 4000000 in
theorem t_M_value_J35 (l : Launch) (Z : XZ) (u0 : PS) {K : Int32 → PS → Prop} (x0 : Nat) (x1 : Int32) (x2 : Int32) (s0 : Nat) (s1 : Int32) (u : PS) (k : (p_M_value_J35 K x0 x1 x2 s0 s1 u)) : XN l Z i_M_value u0 (kI K) u 35 [(0, .ref x0), (1, .int x1), (2, .int x2)] [.int s1, .ref s0] := by
  unfold p_M_value_J35 at k
  obtain ⟨rv, v9, hK, hle_u, w9⟩ := t_M_value_J36 l Z u0 x0 x1 x2 s0 s1 (0 : Int32) u k
  refine ⟨rv, v9, hK, hle_u, ?_⟩
  intro p e s m args below meth c A H locs ls F hw hl
  obtain ⟨⟨hx, hb, hml, hown, hts⟩, hr, hlocks, hmn⟩ := id F
  refine lv_iconst (v := 0) hx hb d_M_value_35 (by decide) ?_
  exact w9 p e s m args below meth c A H locs ls F hw (lv_sub hl [0, 1, 2] rfl)
set_option maxRecDepth 100000 in
set_option maxHeartbeats 4000000 in
theorem t_M_value_J13 (l : Launch) (Z : XZ) (u0 : PS) {K : Int32 → PS → Prop} (x0 : Nat) (x1 : Int32) (x2 : Int32) (s0 : Nat) (s1 : Int32) (u : PS) (k : (p_M_value_J13 K x0 x1 x2 s0 s1 u)) : XN l Z i_M_value u0 (kI K) u 13 [(0, .ref x0), (1, .int x1), (2, .int x2)] [.int s1, .ref s0] := by
  unfold p_M_value_J13 at k
  obtain ⟨_, u_13, ⟨r_14, rfl, k⟩, hM1⟩ := c_M_isPlace l Z x1 u _ k
  by_cases hc2 : r_14 = 0
  · have k := k.1 hc2
    obtain ⟨rv, v9, hK, hle_u_13, w9⟩ := t_M_value_J35 l Z u0 x0 x1 x2 s0 s1 u_13 k
    have hle_u : x_le u v9 := (hM1.1).tr hle_u_13
    refine ⟨rv, v9, hK, hle_u, ?_⟩
    intro p e s m args below meth c A H locs ls F hw hl
    obtain ⟨⟨hx, hb, hml, hown, hts⟩, hr, hlocks, hmn⟩ := id F
    refine lv_iload_n hx hb d_M_value_13 rfl (lv_at hl 1 rfl) ?_
    refine xr_cS (As := [.int x1]) (rest := [.int s1, .ref s0]) ⟨hx, hb, hml, hown, hts⟩ hw hM1 hle_u_13 (fun _ _ => ⟨callB_of 1 hts (xgood w_922) rfl rfl rfl (hts _ (xm w_8)) (hts _ (xm w_920)) ⟨by decide, by decide, by decide +kernel⟩ ⟨Nat.le_of_ble_eq_true rfl, Nat.le_of_ble_eq_true rfl⟩, (hts _ (xm w_921))⟩) rfl hl.1 rfl (Nat.le_of_ble_eq_true rfl) d_M_value_14 (fun H locs hw => ?_)
    refine W.eq (g2 := F0 m 17 ls [.int r_14, .int s1, .ref s0]) rfl ?_
    refine lv_if_eq (tgt := 35) hx hb d_M_value_17 (by decide) (fun _ => ?_) (fun c9 => absurd hc2 c9)
    exact w9 p e s m args below meth c A H locs ls F hw (lv_sub hl [0, 1, 2] rfl)
  · have k := k.2 hc2
    obtain ⟨_, u_19, ⟨r_20, rfl, k⟩, hM3⟩ := c_M_in l Z x2 (0 : Int32) (1023 : Int32) u_13 _ k
    by_cases hc4 : r_20 = 0
    · have k := k.2 hc4
      obtain ⟨rv, v9, hK, hle_u_19, w9⟩ := t_M_value_J36 l Z u0 x0 x1 x2 s0 s1 (1 : Int32) u_19 k
      have hle_u_13 : x_le u_13 v9 := (hM3.1).tr hle_u_19
      have hle_u : x_le u v9 := (hM1.1).tr hle_u_13
      refine ⟨rv, v9, hK, hle_u, ?_⟩
      intro p e s m args below meth c A H locs ls F hw hl
      obtain ⟨⟨hx, hb, hml, hown, hts⟩, hr, hlocks, hmn⟩ := id F
      refine lv_iload_n hx hb d_M_value_13 rfl (lv_at hl 1 rfl) ?_
      refine xr_cS (As := [.int x1]) (rest := [.int s1, .ref s0]) ⟨hx, hb, hml, hown, hts⟩ hw hM1 hle_u_13 (fun _ _ => ⟨callB_of 1 hts (xgood w_922) rfl rfl rfl (hts _ (xm w_8)) (hts _ (xm w_920)) ⟨by decide, by decide, by decide +kernel⟩ ⟨Nat.le_of_ble_eq_true rfl, Nat.le_of_ble_eq_true rfl⟩, (hts _ (xm w_921))⟩) rfl hl.1 rfl (Nat.le_of_ble_eq_true rfl) d_M_value_14 (fun H locs hw => ?_)
      refine W.eq (g2 := F0 m 17 ls [.int r_14, .int s1, .ref s0]) rfl ?_
      refine lv_if_eq (tgt := 35) hx hb d_M_value_17 (by decide) (fun c9 => absurd c9 hc2) (fun _ => ?_)
      refine lv_iload_n hx hb d_M_value_20 rfl (lv_at hl 2 rfl) ?_
      refine lv_iconst (v := 0) hx hb d_M_value_21 (by decide) ?_
      refine lv_sipush (v := 1023) hx hb d_M_value_22 (by decide) ?_
      refine xr_cS (As := [.int x2, .int 0, .int 1023]) (rest := [.int s1, .ref s0]) ⟨hx, hb, hml, hown, hts⟩ hw hM3 hle_u_19 (fun _ _ => ⟨callB_of 3 hts (xgood w_925) rfl rfl rfl (hts _ (xm w_8)) (hts _ (xm w_923)) ⟨by decide, by decide, by decide +kernel⟩ ⟨Nat.le_of_ble_eq_true rfl, Nat.le_of_ble_eq_true rfl⟩, (hts _ (xm w_924))⟩) rfl hl.1 rfl (Nat.le_of_ble_eq_true rfl) d_M_value_25 (fun H locs hw => ?_)
      refine W.eq (g2 := F0 m 28 ls [.int r_20, .int s1, .ref s0]) rfl ?_
      refine lv_if_ne (tgt := 35) hx hb d_M_value_28 (by decide) (fun c9 => absurd hc4 c9) (fun _ => ?_)
      refine lv_iconst (v := 1) hx hb d_M_value_31 (by decide) ?_
      refine lv_goto (tgt := 36) hx hb d_M_value_32 (by decide) ?_
      exact w9 p e s m args below meth c A H locs ls F hw (lv_sub hl [0, 1, 2] rfl)
    · have k := k.1 hc4
      obtain ⟨rv, v9, hK, hle_u_19, w9⟩ := t_M_value_J35 l Z u0 x0 x1 x2 s0 s1 u_19 k
      have hle_u_13 : x_le u_13 v9 := (hM3.1).tr hle_u_19
      have hle_u : x_le u v9 := (hM1.1).tr hle_u_13
      refine ⟨rv, v9, hK, hle_u, ?_⟩
      intro p e s m args below meth c A H locs ls F hw hl
      obtain ⟨⟨hx, hb, hml, hown, hts⟩, hr, hlocks, hmn⟩ := id F
      refine lv_iload_n hx hb d_M_value_13 rfl (lv_at hl 1 rfl) ?_
      refine xr_cS (As := [.int x1]) (rest := [.int s1, .ref s0]) ⟨hx, hb, hml, hown, hts⟩ hw hM1 hle_u_13 (fun _ _ => ⟨callB_of 1 hts (xgood w_922) rfl rfl rfl (hts _ (xm w_8)) (hts _ (xm w_920)) ⟨by decide, by decide, by decide +kernel⟩ ⟨Nat.le_of_ble_eq_true rfl, Nat.le_of_ble_eq_true rfl⟩, (hts _ (xm w_921))⟩) rfl hl.1 rfl (Nat.le_of_ble_eq_true rfl) d_M_value_14 (fun H locs hw => ?_)
      refine W.eq (g2 := F0 m 17 ls [.int r_14, .int s1, .ref s0]) rfl ?_
      refine lv_if_eq (tgt := 35) hx hb d_M_value_17 (by decide) (fun c9 => absurd c9 hc2) (fun _ => ?_)
      refine lv_iload_n hx hb d_M_value_20 rfl (lv_at hl 2 rfl) ?_
      refine lv_iconst (v := 0) hx hb d_M_value_21 (by decide) ?_
      refine lv_sipush (v := 1023) hx hb d_M_value_22 (by decide) ?_
      refine xr_cS (As := [.int x2, .int 0, .int 1023]) (rest := [.int s1, .ref s0]) ⟨hx, hb, hml, hown, hts⟩ hw hM3 hle_u_19 (fun _ _ => ⟨callB_of 3 hts (xgood w_925) rfl rfl rfl (hts _ (xm w_8)) (hts _ (xm w_923)) ⟨by decide, by decide, by decide +kernel⟩ ⟨Nat.le_of_ble_eq_true rfl, Nat.le_of_ble_eq_true rfl⟩, (hts _ (xm w_924))⟩) rfl hl.1 rfl (Nat.le_of_ble_eq_true rfl) d_M_value_25 (fun H locs hw => ?_)
      refine W.eq (g2 := F0 m 28 ls [.int r_20, .int s1, .ref s0]) rfl ?_
      refine lv_if_ne (tgt := 35) hx hb d_M_value_28 (by decide) (fun _ => ?_) (fun c9 => absurd c9 hc4)
      exact w9 p e s m args below meth c A H locs ls F hw (lv_sub hl [0, 1, 2] rfl)
set_option maxRecDepth 100000 in
set_option maxHeartbeats 4000000 in
theorem c_M_value (l : Launch) (Z : XZ) (x0 : Nat) (x1 : Int32) (x2 : Int32) (u : PS) (K : Int32 → PS → Prop) (k : p_M_value x0 x1 x2 u K) : ∃ (rv : Option Value) (u1 : PS), (kI K) rv u1 ∧ XMet l Z i_M_value [.ref x0, .int x1, .int x2] u rv u1 := by
  refine x_met (by decide) rfl (Nat.le_of_ble_eq_true rfl) ?_
  show XN l Z i_M_value u (kI K) u 0 [(0, .ref x0), (1, .int x1), (2, .int x2)] []
  unfold p_M_value at k
  obtain ⟨_, u_11, ⟨r_12, rfl, k⟩, hM1⟩ := c_M_isPlace l Z x1 u _ k
  by_cases hc2 : r_12 = 0
  · have k := k.2 hc2
    obtain ⟨rv, v9, hK, hle_u_11, w9⟩ := t_M_value_J13 l Z u x0 x1 x2 x0 (1 : Int32) u_11 k
    have hle_u : x_le u v9 := (hM1.1).tr hle_u_11
    refine ⟨rv, v9, hK, hle_u, ?_⟩
    intro p e s m args below meth c A H locs ls F hw hl
    obtain ⟨⟨hx, hb, hml, hown, hts⟩, hr, hlocks, hmn⟩ := id F
    refine lv_aload_n hx hb d_M_value_0 rfl (lv_at hl 0 rfl) ?_
    refine lv_iload_n hx hb d_M_value_1 rfl (lv_at hl 1 rfl) ?_
    refine xr_cS (As := [.int x1]) (rest := [.ref x0]) ⟨hx, hb, hml, hown, hts⟩ hw hM1 hle_u_11 (fun _ _ => ⟨callB_of 1 hts (xgood w_922) rfl rfl rfl (hts _ (xm w_8)) (hts _ (xm w_920)) ⟨by decide, by decide, by decide +kernel⟩ ⟨Nat.le_of_ble_eq_true rfl, Nat.le_of_ble_eq_true rfl⟩, (hts _ (xm w_921))⟩) rfl hl.1 rfl (Nat.le_of_ble_eq_true rfl) d_M_value_2 (fun H locs hw => ?_)
    refine W.eq (g2 := F0 m 5 ls [.int r_12, .ref x0]) rfl ?_
    refine lv_if_ne (tgt := 12) hx hb d_M_value_5 (by decide) (fun c9 => absurd hc2 c9) (fun _ => ?_)
    refine lv_iconst (v := 1) hx hb d_M_value_8 (by decide) ?_
    refine lv_goto (tgt := 13) hx hb d_M_value_9 (by decide) ?_
    exact w9 p e s m args below meth c A H locs ls F hw (lv_sub hl [0, 1, 2] rfl)
  · have k := k.1 hc2
    obtain ⟨rv, v9, hK, hle_u_11, w9⟩ := t_M_value_J13 l Z u x0 x1 x2 x0 (0 : Int32) u_11 k
    have hle_u : x_le u v9 := (hM1.1).tr hle_u_11
    refine ⟨rv, v9, hK, hle_u, ?_⟩
    intro p e s m args below meth c A H locs ls F hw hl
    obtain ⟨⟨hx, hb, hml, hown, hts⟩, hr, hlocks, hmn⟩ := id F
    refine lv_aload_n hx hb d_M_value_0 rfl (lv_at hl 0 rfl) ?_
    refine lv_iload_n hx hb d_M_value_1 rfl (lv_at hl 1 rfl) ?_
    refine xr_cS (As := [.int x1]) (rest := [.ref x0]) ⟨hx, hb, hml, hown, hts⟩ hw hM1 hle_u_11 (fun _ _ => ⟨callB_of 1 hts (xgood w_922) rfl rfl rfl (hts _ (xm w_8)) (hts _ (xm w_920)) ⟨by decide, by decide, by decide +kernel⟩ ⟨Nat.le_of_ble_eq_true rfl, Nat.le_of_ble_eq_true rfl⟩, (hts _ (xm w_921))⟩) rfl hl.1 rfl (Nat.le_of_ble_eq_true rfl) d_M_value_2 (fun H locs hw => ?_)
    refine W.eq (g2 := F0 m 5 ls [.int r_12, .ref x0]) rfl ?_
    refine lv_if_ne (tgt := 12) hx hb d_M_value_5 (by decide) (fun _ => ?_) (fun c9 => absurd c9 hc2)
    refine lv_iconst (v := 0) hx hb d_M_value_12 (by decide) ?_
    exact w9 p e s m args below meth c A H locs ls F hw (lv_sub hl [0, 1, 2] rfl)
set_option maxRecDepth 100000 in
set_option maxHeartbeats 4000000 in
theorem t_M_least_J46 (l : Launch) (Z : XZ) (u0 : PS) {Kv : Option Value → PS → Prop} {R : Int32 → Int32 → PS → Prop} {E53 : Int32 → PS → Prop} (x0 : Nat) (x1 : Int32) (x3 : Int32) (s0 : Int32) (u : PS) (hR : ∀ (y2 : Int32) (y3 : Int32) (v : PS), R y2 y3 v → XN l Z i_M_least u0 Kv v 28 [(0, .ref x0), (1, .int x1), (2, .int y2), (3, .int y3)] []) (hE53 : ∀ (y2 : Int32) (v : PS), E53 y2 v → XN l Z i_M_least u0 Kv v 53 [(2, .int y2)] []) (k : (p_M_least_J46 R E53 x0 x1 x3 s0 u)) : XN l Z i_M_least u0 Kv u 46 [(0, .ref x0), (1, .int x1), (3, .int x3)] [.int s0] := by
  unfold p_M_least_J46 at k
  obtain ⟨y1, ey1⟩ : ∃ y9 : Int32, y9 = x3 + (-1) := ⟨_, rfl⟩
  have k := k y1 ey1
  obtain ⟨rv, v9, hK, hle_u, w9⟩ := hR s0 y1 u k
  refine ⟨rv, v9, hK, hle_u, ?_⟩
  intro p e s m args below meth c A H locs ls F hw hl
  obtain ⟨⟨hx, hb, hml, hown, hts⟩, hr, hlocks, hmn⟩ := id F
  refine lv_istore_n (lv' := [(2, .int s0), (0, .ref x0), (1, .int x1), (3, .int x3)]) hx hb d_M_least_46 rfl hl (by decide) rfl (fun ls hl => ?_)
  refine lv_iinc (v := y1) (lv' := [(3, .int y1), (2, .int s0), (0, .ref x0), (1, .int x1)]) hx hb d_M_least_47 hl (k := 3) rfl (by subst ey1; rfl) (by decide) rfl (fun ls hl => ?_)
  refine lv_goto (tgt := 28) hx hb d_M_least_50 (by decide) ?_
  exact w9 p e s m args below meth c A H locs ls F hw (lv_sub hl [2, 3, 1, 0] rfl)
set_option maxRecDepth 100000 in
set_option maxHeartbeats 4000000 in
theorem t_M_least_L28 (l : Launch) (Z : XZ) (u0 : PS) {Kv : Option Value → PS → Prop} {E53 : Int32 → PS → Prop} (x0 : Nat) (x1 : Int32) (hE53 : ∀ (y2 : Int32) (v : PS), E53 y2 v → XN l Z i_M_least u0 Kv v 53 [(2, .int y2)] []) : ∀ (n : Nat) (x2 : Int32) (x3 : Int32) (u : PS), p_M_least_L28 x0 x1 E53 n x2 x3 u → XN l Z i_M_least u0 Kv u 28 [(0, .ref x0), (1, .int x1), (2, .int x2), (3, .int x3)] [] := by
  intro n
  induction n with
  | zero => intro x2 x3 u k; exact False.elim k
  | succ n ih =>
    intro x2 x3 u k
    rw [p_M_least_L28] at k
    by_cases hc1 : x3 < 0
    · have k := k.1 hc1
      obtain ⟨rv, v9, hK, hle_u, w9⟩ := hE53 x2 u k
      refine ⟨rv, v9, hK, hle_u, ?_⟩
      intro p e s m args below meth c A H locs ls F hw hl
      obtain ⟨⟨hx, hb, hml, hown, hts⟩, hr, hlocks, hmn⟩ := id F
      refine lv_iload_n hx hb d_M_least_28 rfl (lv_at hl 3 rfl) ?_
      refine lv_if_lt (tgt := 53) hx hb d_M_least_29 (by decide) (fun _ => ?_) (fun c9 => absurd hc1 c9)
      exact w9 p e s m args below meth c A H locs ls F hw (lv_sub hl [2] rfl)
    · have k := k.2 hc1
      obtain ⟨h3, k⟩ := k
      obtain ⟨_, u_15, ⟨r_16, rfl, k⟩, hM2⟩ := c_M_is l Z x0 x1 x3 u _ k
      by_cases hc4 : r_16 = 0
      · have k := k.1 hc4
        obtain ⟨rv, v9, hK, hle_u_15, w9⟩ := t_M_least_J46 l Z u0 x0 x1 x3 x2 u_15 ih hE53 k
        have hle_u : x_le u v9 := (hM2.1).tr hle_u_15
        refine ⟨rv, v9, hK, hle_u, ?_⟩
        intro p e s m args below meth c A H locs ls F hw hl
        obtain ⟨⟨hx, hb, hml, hown, hts⟩, hr, hlocks, hmn⟩ := id F
        refine lv_iload_n hx hb d_M_least_28 rfl (lv_at hl 3 rfl) ?_
        refine lv_if_lt (tgt := 53) hx hb d_M_least_29 (by decide) (fun c9 => absurd c9 hc1) (fun _ => ?_)
        refine lv_aload_n hx hb d_M_least_32 rfl (lv_at hl 0 rfl) ?_
        refine lv_iload_n hx hb d_M_least_33 rfl (lv_at hl 1 rfl) ?_
        refine lv_iload_n hx hb d_M_least_34 rfl (lv_at hl 3 rfl) ?_
        refine xr_cV (As := [.int x1, .int x3]) (rest := []) ⟨hx, hb, hml, hown, hts⟩ hw hM2 hle_u_15 (fun _ _ => ⟨callB_of 2 hts (xgood w_944) rfl rfl rfl (hts _ (xm w_8)) (hts _ (xm w_941)) ⟨by decide, by decide, by decide +kernel⟩ ⟨Nat.le_of_ble_eq_true rfl, Nat.le_of_ble_eq_true rfl⟩, (hts _ (xm w_943)), (hts _ (xm wp_39))⟩) (qc := (R_M, F_M, 14)) rfl rfl h3 rfl hl.1 rfl (Nat.le_of_ble_eq_true rfl) d_M_least_35 (fun H locs hw => ?_)
        refine W.eq (g2 := F0 m 38 ls [.int r_16]) rfl ?_
        refine lv_if_eq (tgt := 45) hx hb d_M_least_38 (by decide) (fun _ => ?_) (fun c9 => absurd hc4 c9)
        refine lv_iload_n hx hb d_M_least_45 rfl (lv_at hl 2 rfl) ?_
        exact w9 p e s m args below meth c A H locs ls F hw (lv_sub hl [0, 1, 3] rfl)
      · have k := k.2 hc4
        obtain ⟨rv, v9, hK, hle_u_15, w9⟩ := t_M_least_J46 l Z u0 x0 x1 x3 x3 u_15 ih hE53 k
        have hle_u : x_le u v9 := (hM2.1).tr hle_u_15
        refine ⟨rv, v9, hK, hle_u, ?_⟩
        intro p e s m args below meth c A H locs ls F hw hl
        obtain ⟨⟨hx, hb, hml, hown, hts⟩, hr, hlocks, hmn⟩ := id F
        refine lv_iload_n hx hb d_M_least_28 rfl (lv_at hl 3 rfl) ?_
        refine lv_if_lt (tgt := 53) hx hb d_M_least_29 (by decide) (fun c9 => absurd c9 hc1) (fun _ => ?_)
        refine lv_aload_n hx hb d_M_least_32 rfl (lv_at hl 0 rfl) ?_
        refine lv_iload_n hx hb d_M_least_33 rfl (lv_at hl 1 rfl) ?_
        refine lv_iload_n hx hb d_M_least_34 rfl (lv_at hl 3 rfl) ?_
        refine xr_cV (As := [.int x1, .int x3]) (rest := []) ⟨hx, hb, hml, hown, hts⟩ hw hM2 hle_u_15 (fun _ _ => ⟨callB_of 2 hts (xgood w_944) rfl rfl rfl (hts _ (xm w_8)) (hts _ (xm w_941)) ⟨by decide, by decide, by decide +kernel⟩ ⟨Nat.le_of_ble_eq_true rfl, Nat.le_of_ble_eq_true rfl⟩, (hts _ (xm w_943)), (hts _ (xm wp_39))⟩) (qc := (R_M, F_M, 14)) rfl rfl h3 rfl hl.1 rfl (Nat.le_of_ble_eq_true rfl) d_M_least_35 (fun H locs hw => ?_)
        refine W.eq (g2 := F0 m 38 ls [.int r_16]) rfl ?_
        refine lv_if_eq (tgt := 45) hx hb d_M_least_38 (by decide) (fun c9 => absurd c9 hc4) (fun _ => ?_)
        refine lv_iload_n hx hb d_M_least_41 rfl (lv_at hl 3 rfl) ?_
        refine lv_goto (tgt := 46) hx hb d_M_least_42 (by decide) ?_
        exact w9 p e s m args below meth c A H locs ls F hw (lv_sub hl [0, 1, 3] rfl)
set_option maxRecDepth 100000 in
set_option maxHeartbeats 4000000 in
theorem t_M_least_J13 (l : Launch) (Z : XZ) (u0 : PS) {K : Int32 → PS → Prop} (x0 : Nat) (x1 : Int32) (s0 : Nat) (s1 : Int32) (u : PS) (k : (p_M_least_J13 K x0 x1 s0 s1 u)) : XN l Z i_M_least u0 (kI K) u 13 [(0, .ref x0), (1, .int x1)] [.int s1, .ref s0] := by
  unfold p_M_least_J13 at k
  obtain ⟨h2, k⟩ := k
  obtain ⟨_, u_13, ⟨r_14, rfl, k⟩, hM1⟩ := c_M_refuse l Z s0 s1 (0 : Int32) u _ k
  by_cases hc3 : r_14 = 0
  · have k := k.1 hc3
    obtain ⟨n4, k⟩ := k
    have hx7 : ∀ (y2_5 : Int32) (v6 : PS), (K y2_5 v6) → XN l Z i_M_least u0 (kI K) v6 53 [(2, .int y2_5)] [] := by
      intro y2_5 v6 k
      have hle_v6 : x_le v6 v6 := x_le.rf v6
      refine ⟨some (.int y2_5), v6, ⟨y2_5, rfl, k⟩, hle_v6, ?_⟩
      intro p e s m args below meth c A H locs ls F hw hl
      obtain ⟨⟨hx, hb, hml, hown, hts⟩, hr, hlocks, hmn⟩ := id F
      refine lv_iload_n hx hb d_M_least_53 rfl (lv_at hl 0 rfl) ?_
      exact xr_iret F rfl hw d_M_least_54
    obtain ⟨rv, v9, hK, hle_u_13, w9⟩ := t_M_least_L28 l Z u0 x0 x1 hx7 n4 (-1 : Int32) (1023 : Int32) u_13 k
    have hle_u : x_le u v9 := (hM1.1).tr hle_u_13
    refine ⟨rv, v9, hK, hle_u, ?_⟩
    intro p e s m args below meth c A H locs ls F hw hl
    obtain ⟨⟨hx, hb, hml, hown, hts⟩, hr, hlocks, hmn⟩ := id F
    refine lv_iconst (v := 0) hx hb d_M_least_13 (by decide) ?_
    refine xr_cV (As := [.int s1, .int 0]) (rest := []) ⟨hx, hb, hml, hown, hts⟩ hw hM1 hle_u_13 (fun _ _ => ⟨callB_of 2 hts (xgood w_929) rfl rfl rfl (hts _ (xm w_8)) (hts _ (xm w_926)) ⟨by decide, by decide, by decide +kernel⟩ ⟨Nat.le_of_ble_eq_true rfl, Nat.le_of_ble_eq_true rfl⟩, (hts _ (xm w_928)), (hts _ (xm wp_38))⟩) (qc := (R_M, F_M, 14)) rfl rfl h2 rfl hl.1 rfl (Nat.le_of_ble_eq_true rfl) d_M_least_14 (fun H locs hw => ?_)
    refine W.eq (g2 := F0 m 17 ls [.int r_14]) rfl ?_
    refine lv_if_eq (tgt := 22) hx hb d_M_least_17 (by decide) (fun _ => ?_) (fun c9 => absurd hc3 c9)
    refine lv_iconst (v := (-1)) hx hb d_M_least_22 (by decide) ?_
    refine lv_istore_n (lv' := [(2, .int (-1)), (0, .ref x0), (1, .int x1)]) hx hb d_M_least_23 rfl hl (by decide) rfl (fun ls hl => ?_)
    refine lv_sipush (v := 1023) hx hb d_M_least_24 (by decide) ?_
    refine lv_istore_n (lv' := [(3, .int 1023), (2, .int (-1)), (0, .ref x0), (1, .int x1)]) hx hb d_M_least_27 rfl hl (by decide) rfl (fun ls hl => ?_)
    exact w9 p e s m args below meth c A H locs ls F hw (lv_sub hl [2, 3, 1, 0] rfl)
  · have k := k.2 hc3
    have hle_u_13 : x_le u_13 u_13 := x_le.rf u_13
    have hle_u : x_le u u_13 := (hM1.1).tr hle_u_13
    refine ⟨some (.int 0), u_13, ⟨(0 : Int32), rfl, k⟩, hle_u, ?_⟩
    intro p e s m args below meth c A H locs ls F hw hl
    obtain ⟨⟨hx, hb, hml, hown, hts⟩, hr, hlocks, hmn⟩ := id F
    refine lv_iconst (v := 0) hx hb d_M_least_13 (by decide) ?_
    refine xr_cV (As := [.int s1, .int 0]) (rest := []) ⟨hx, hb, hml, hown, hts⟩ hw hM1 hle_u_13 (fun _ _ => ⟨callB_of 2 hts (xgood w_929) rfl rfl rfl (hts _ (xm w_8)) (hts _ (xm w_926)) ⟨by decide, by decide, by decide +kernel⟩ ⟨Nat.le_of_ble_eq_true rfl, Nat.le_of_ble_eq_true rfl⟩, (hts _ (xm w_928)), (hts _ (xm wp_38))⟩) (qc := (R_M, F_M, 14)) rfl rfl h2 rfl hl.1 rfl (Nat.le_of_ble_eq_true rfl) d_M_least_14 (fun H locs hw => ?_)
    refine W.eq (g2 := F0 m 17 ls [.int r_14]) rfl ?_
    refine lv_if_eq (tgt := 22) hx hb d_M_least_17 (by decide) (fun c9 => absurd c9 hc3) (fun _ => ?_)
    refine lv_iconst (v := 0) hx hb d_M_least_20 (by decide) ?_
    exact xr_iret F rfl hw d_M_least_21
set_option maxRecDepth 100000 in
set_option maxHeartbeats 4000000 in
theorem c_M_least (l : Launch) (Z : XZ) (x0 : Nat) (x1 : Int32) (u : PS) (K : Int32 → PS → Prop) (k : p_M_least x0 x1 u K) : ∃ (rv : Option Value) (u1 : PS), (kI K) rv u1 ∧ XMet l Z i_M_least [.ref x0, .int x1] u rv u1 := by
  refine x_met (by decide) rfl (Nat.le_of_ble_eq_true rfl) ?_
  show XN l Z i_M_least u (kI K) u 0 [(0, .ref x0), (1, .int x1)] []
  unfold p_M_least at k
  obtain ⟨_, u_11, ⟨r_12, rfl, k⟩, hM1⟩ := c_M_isPlace l Z x1 u _ k
  by_cases hc2 : r_12 = 0
  · have k := k.2 hc2
    obtain ⟨rv, v9, hK, hle_u_11, w9⟩ := t_M_least_J13 l Z u x0 x1 x0 (1 : Int32) u_11 k
    have hle_u : x_le u v9 := (hM1.1).tr hle_u_11
    refine ⟨rv, v9, hK, hle_u, ?_⟩
    intro p e s m args below meth c A H locs ls F hw hl
    obtain ⟨⟨hx, hb, hml, hown, hts⟩, hr, hlocks, hmn⟩ := id F
    refine lv_aload_n hx hb d_M_least_0 rfl (lv_at hl 0 rfl) ?_
    refine lv_iload_n hx hb d_M_least_1 rfl (lv_at hl 1 rfl) ?_
    refine xr_cS (As := [.int x1]) (rest := [.ref x0]) ⟨hx, hb, hml, hown, hts⟩ hw hM1 hle_u_11 (fun _ _ => ⟨callB_of 1 hts (xgood w_922) rfl rfl rfl (hts _ (xm w_8)) (hts _ (xm w_920)) ⟨by decide, by decide, by decide +kernel⟩ ⟨Nat.le_of_ble_eq_true rfl, Nat.le_of_ble_eq_true rfl⟩, (hts _ (xm w_921))⟩) rfl hl.1 rfl (Nat.le_of_ble_eq_true rfl) d_M_least_2 (fun H locs hw => ?_)
    refine W.eq (g2 := F0 m 5 ls [.int r_12, .ref x0]) rfl ?_
    refine lv_if_ne (tgt := 12) hx hb d_M_least_5 (by decide) (fun c9 => absurd hc2 c9) (fun _ => ?_)
    refine lv_iconst (v := 1) hx hb d_M_least_8 (by decide) ?_
    refine lv_goto (tgt := 13) hx hb d_M_least_9 (by decide) ?_
    exact w9 p e s m args below meth c A H locs ls F hw (lv_sub hl [0, 1] rfl)
  · have k := k.1 hc2
    obtain ⟨rv, v9, hK, hle_u_11, w9⟩ := t_M_least_J13 l Z u x0 x1 x0 (0 : Int32) u_11 k
    have hle_u : x_le u v9 := (hM1.1).tr hle_u_11
    refine ⟨rv, v9, hK, hle_u, ?_⟩
    intro p e s m args below meth c A H locs ls F hw hl
    obtain ⟨⟨hx, hb, hml, hown, hts⟩, hr, hlocks, hmn⟩ := id F
    refine lv_aload_n hx hb d_M_least_0 rfl (lv_at hl 0 rfl) ?_
    refine lv_iload_n hx hb d_M_least_1 rfl (lv_at hl 1 rfl) ?_
    refine xr_cS (As := [.int x1]) (rest := [.ref x0]) ⟨hx, hb, hml, hown, hts⟩ hw hM1 hle_u_11 (fun _ _ => ⟨callB_of 1 hts (xgood w_922) rfl rfl rfl (hts _ (xm w_8)) (hts _ (xm w_920)) ⟨by decide, by decide, by decide +kernel⟩ ⟨Nat.le_of_ble_eq_true rfl, Nat.le_of_ble_eq_true rfl⟩, (hts _ (xm w_921))⟩) rfl hl.1 rfl (Nat.le_of_ble_eq_true rfl) d_M_least_2 (fun H locs hw => ?_)
    refine W.eq (g2 := F0 m 5 ls [.int r_12, .ref x0]) rfl ?_
    refine lv_if_ne (tgt := 12) hx hb d_M_least_5 (by decide) (fun _ => ?_) (fun c9 => absurd c9 hc2)
    refine lv_iconst (v := 0) hx hb d_M_least_12 (by decide) ?_
    exact w9 p e s m args below meth c A H locs ls F hw (lv_sub hl [0, 1] rfl)
set_option maxRecDepth 100000 in
set_option maxHeartbeats 4000000 in
theorem t_M_support_J73 (l : Launch) (Z : XZ) (u0 : PS) {Kv : Option Value → PS → Prop} {R : Int32 → Int32 → PS → Prop} {E80 : Int32 → PS → Prop} (x0 : Nat) (x1 : Int32) (x3 : Int32) (x4 : Int32) (s0 : Int32) (u : PS) (hR : ∀ (y2 : Int32) (y4 : Int32) (v : PS), R y2 y4 v → XN l Z i_M_support u0 Kv v 36 [(0, .ref x0), (1, .int x1), (2, .int y2), (3, .int x3), (4, .int y4)] []) (hE80 : ∀ (y2 : Int32) (v : PS), E80 y2 v → XN l Z i_M_support u0 Kv v 80 [(0, .ref x0), (1, .int x1), (2, .int y2), (3, .int x3)] []) (k : (p_M_support_J73 R E80 x0 x1 x3 x4 s0 u)) : XN l Z i_M_support u0 Kv u 73 [(0, .ref x0), (1, .int x1), (3, .int x3), (4, .int x4)] [.int s0] := by
  unfold p_M_support_J73 at k
  obtain ⟨y1, ey1⟩ : ∃ y9 : Int32, y9 = x4 + 1 := ⟨_, rfl⟩
  have k := k y1 ey1
  obtain ⟨rv, v9, hK, hle_u, w9⟩ := hR s0 y1 u k
  refine ⟨rv, v9, hK, hle_u, ?_⟩
  intro p e s m args below meth c A H locs ls F hw hl
  obtain ⟨⟨hx, hb, hml, hown, hts⟩, hr, hlocks, hmn⟩ := id F
  refine lv_istore_n (lv' := [(2, .int s0), (0, .ref x0), (1, .int x1), (3, .int x3), (4, .int x4)]) hx hb d_M_support_73 rfl hl (by decide) rfl (fun ls hl => ?_)
  refine lv_iinc (v := y1) (lv' := [(4, .int y1), (2, .int s0), (0, .ref x0), (1, .int x1), (3, .int x3)]) hx hb d_M_support_74 hl (k := 4) rfl (by subst ey1; rfl) (by decide) rfl (fun ls hl => ?_)
  refine lv_goto (tgt := 36) hx hb d_M_support_77 (by decide) ?_
  exact w9 p e s m args below meth c A H locs ls F hw (lv_sub hl [2, 3, 1, 4, 0] rfl)
set_option maxRecDepth 100000 in
set_option maxHeartbeats 4000000 in
theorem t_M_support_L36 (l : Launch) (Z : XZ) (u0 : PS) {Kv : Option Value → PS → Prop} {E80 : Int32 → PS → Prop} (x0 : Nat) (x1 : Int32) (x3 : Int32) (hE80 : ∀ (y2 : Int32) (v : PS), E80 y2 v → XN l Z i_M_support u0 Kv v 80 [(0, .ref x0), (1, .int x1), (2, .int y2), (3, .int x3)] []) : ∀ (n : Nat) (x2 : Int32) (x4 : Int32) (u : PS), p_M_support_L36 x0 x1 x3 E80 n x2 x4 u → XN l Z i_M_support u0 Kv u 36 [(0, .ref x0), (1, .int x1), (2, .int x2), (3, .int x3), (4, .int x4)] [] := by
  intro n
  induction n with
  | zero => intro x2 x4 u k; exact False.elim k
  | succ n ih =>
    intro x2 x4 u k
    rw [p_M_support_L36] at k
    by_cases hc1 : 10 ≤ x4
    · have k := k.1 hc1
      obtain ⟨rv, v9, hK, hle_u, w9⟩ := hE80 x2 u k
      refine ⟨rv, v9, hK, hle_u, ?_⟩
      intro p e s m args below meth c A H locs ls F hw hl
      obtain ⟨⟨hx, hb, hml, hown, hts⟩, hr, hlocks, hmn⟩ := id F
      refine lv_iload hx hb d_M_support_36 (lv_at hl 4 rfl) ?_
      refine lv_bipush (v := 10) hx hb d_M_support_38 (by decide) ?_
      refine lv_icmp_ge (tgt := 80) hx hb d_M_support_40 (by decide) (fun _ => ?_) (fun c9 => absurd hc1 c9)
      exact w9 p e s m args below meth c A H locs ls F hw (lv_sub hl [0, 1, 2, 3] rfl)
    · have k := k.2 hc1
      obtain ⟨h3, k⟩ := k
      obtain ⟨_, u_21, ⟨r_22, rfl, k⟩, hM2⟩ := c_M_is l Z x0 x1 x3 u _ k
      obtain ⟨h5, k⟩ := k
      obtain ⟨_, u_23, ⟨r_24, rfl, k⟩, hM4⟩ := c_M_is l Z x0 x1 (x3 ^^^ ((1 : Int32) <<< (x4 &&& 31))) u_21 _ k
      by_cases hc6 : r_22 = r_24
      · have k := k.1 hc6
        obtain ⟨rv, v9, hK, hle_u_23, w9⟩ := t_M_support_J73 l Z u0 x0 x1 x3 x4 x2 u_23 ih hE80 k
        have hle_u_21 : x_le u_21 v9 := (hM4.1).tr hle_u_23
        have hle_u : x_le u v9 := (hM2.1).tr hle_u_21
        refine ⟨rv, v9, hK, hle_u, ?_⟩
        intro p e s m args below meth c A H locs ls F hw hl
        obtain ⟨⟨hx, hb, hml, hown, hts⟩, hr, hlocks, hmn⟩ := id F
        refine lv_iload hx hb d_M_support_36 (lv_at hl 4 rfl) ?_
        refine lv_bipush (v := 10) hx hb d_M_support_38 (by decide) ?_
        refine lv_icmp_ge (tgt := 80) hx hb d_M_support_40 (by decide) (fun c9 => absurd c9 hc1) (fun _ => ?_)
        refine lv_aload_n hx hb d_M_support_43 rfl (lv_at hl 0 rfl) ?_
        refine lv_iload_n hx hb d_M_support_44 rfl (lv_at hl 1 rfl) ?_
        refine lv_iload_n hx hb d_M_support_45 rfl (lv_at hl 3 rfl) ?_
        refine xr_cV (As := [.int x1, .int x3]) (rest := []) ⟨hx, hb, hml, hown, hts⟩ hw hM2 hle_u_21 (fun _ _ => ⟨callB_of 2 hts (xgood w_944) rfl rfl rfl (hts _ (xm w_8)) (hts _ (xm w_941)) ⟨by decide, by decide, by decide +kernel⟩ ⟨Nat.le_of_ble_eq_true rfl, Nat.le_of_ble_eq_true rfl⟩, (hts _ (xm w_943)), (hts _ (xm wp_39))⟩) (qc := (R_M, F_M, 14)) rfl rfl h3 rfl hl.1 rfl (Nat.le_of_ble_eq_true rfl) d_M_support_46 (fun H locs hw => ?_)
        refine W.eq (g2 := F0 m 49 ls [.int r_22]) rfl ?_
        refine lv_aload_n hx hb d_M_support_49 rfl (lv_at hl 0 rfl) ?_
        refine lv_iload_n hx hb d_M_support_50 rfl (lv_at hl 1 rfl) ?_
        refine lv_iload_n hx hb d_M_support_51 rfl (lv_at hl 3 rfl) ?_
        refine lv_iconst (v := 1) hx hb d_M_support_52 (by decide) ?_
        refine lv_iload hx hb d_M_support_53 (lv_at hl 4 rfl) ?_
        refine lv_ishl hx hb d_M_support_55 ?_
        refine lv_ixor hx hb d_M_support_56 ?_
        refine xr_cV (As := [.int x1, .int (x3 ^^^ ((1 : Int32) <<< (x4 &&& 31)))]) (rest := [.int r_22]) ⟨hx, hb, hml, hown, hts⟩ hw hM4 hle_u_23 (fun _ _ => ⟨callB_of 2 hts (xgood w_944) rfl rfl rfl (hts _ (xm w_8)) (hts _ (xm w_941)) ⟨by decide, by decide, by decide +kernel⟩ ⟨Nat.le_of_ble_eq_true rfl, Nat.le_of_ble_eq_true rfl⟩, (hts _ (xm w_943)), (hts _ (xm wp_39))⟩) (qc := (R_M, F_M, 14)) rfl rfl h5 rfl hl.1 rfl (Nat.le_of_ble_eq_true rfl) d_M_support_57 (fun H locs hw => ?_)
        refine W.eq (g2 := F0 m 60 ls [.int r_24, .int r_22]) rfl ?_
        refine lv_icmp_eq (tgt := 72) hx hb d_M_support_60 (by decide) (fun _ => ?_) (fun c9 => absurd hc6 c9)
        refine lv_iload_n hx hb d_M_support_72 rfl (lv_at hl 2 rfl) ?_
        exact w9 p e s m args below meth c A H locs ls F hw (lv_sub hl [0, 1, 3, 4] rfl)
      · have k := k.2 hc6
        obtain ⟨rv, v9, hK, hle_u_23, w9⟩ := t_M_support_J73 l Z u0 x0 x1 x3 x4 (x2 ||| ((1 : Int32) <<< (x4 &&& 31))) u_23 ih hE80 k
        have hle_u_21 : x_le u_21 v9 := (hM4.1).tr hle_u_23
        have hle_u : x_le u v9 := (hM2.1).tr hle_u_21
        refine ⟨rv, v9, hK, hle_u, ?_⟩
        intro p e s m args below meth c A H locs ls F hw hl
        obtain ⟨⟨hx, hb, hml, hown, hts⟩, hr, hlocks, hmn⟩ := id F
        refine lv_iload hx hb d_M_support_36 (lv_at hl 4 rfl) ?_
        refine lv_bipush (v := 10) hx hb d_M_support_38 (by decide) ?_
        refine lv_icmp_ge (tgt := 80) hx hb d_M_support_40 (by decide) (fun c9 => absurd c9 hc1) (fun _ => ?_)
        refine lv_aload_n hx hb d_M_support_43 rfl (lv_at hl 0 rfl) ?_
        refine lv_iload_n hx hb d_M_support_44 rfl (lv_at hl 1 rfl) ?_
        refine lv_iload_n hx hb d_M_support_45 rfl (lv_at hl 3 rfl) ?_
        refine xr_cV (As := [.int x1, .int x3]) (rest := []) ⟨hx, hb, hml, hown, hts⟩ hw hM2 hle_u_21 (fun _ _ => ⟨callB_of 2 hts (xgood w_944) rfl rfl rfl (hts _ (xm w_8)) (hts _ (xm w_941)) ⟨by decide, by decide, by decide +kernel⟩ ⟨Nat.le_of_ble_eq_true rfl, Nat.le_of_ble_eq_true rfl⟩, (hts _ (xm w_943)), (hts _ (xm wp_39))⟩) (qc := (R_M, F_M, 14)) rfl rfl h3 rfl hl.1 rfl (Nat.le_of_ble_eq_true rfl) d_M_support_46 (fun H locs hw => ?_)
        refine W.eq (g2 := F0 m 49 ls [.int r_22]) rfl ?_
        refine lv_aload_n hx hb d_M_support_49 rfl (lv_at hl 0 rfl) ?_
        refine lv_iload_n hx hb d_M_support_50 rfl (lv_at hl 1 rfl) ?_
        refine lv_iload_n hx hb d_M_support_51 rfl (lv_at hl 3 rfl) ?_
        refine lv_iconst (v := 1) hx hb d_M_support_52 (by decide) ?_
        refine lv_iload hx hb d_M_support_53 (lv_at hl 4 rfl) ?_
        refine lv_ishl hx hb d_M_support_55 ?_
        refine lv_ixor hx hb d_M_support_56 ?_
        refine xr_cV (As := [.int x1, .int (x3 ^^^ ((1 : Int32) <<< (x4 &&& 31)))]) (rest := [.int r_22]) ⟨hx, hb, hml, hown, hts⟩ hw hM4 hle_u_23 (fun _ _ => ⟨callB_of 2 hts (xgood w_944) rfl rfl rfl (hts _ (xm w_8)) (hts _ (xm w_941)) ⟨by decide, by decide, by decide +kernel⟩ ⟨Nat.le_of_ble_eq_true rfl, Nat.le_of_ble_eq_true rfl⟩, (hts _ (xm w_943)), (hts _ (xm wp_39))⟩) (qc := (R_M, F_M, 14)) rfl rfl h5 rfl hl.1 rfl (Nat.le_of_ble_eq_true rfl) d_M_support_57 (fun H locs hw => ?_)
        refine W.eq (g2 := F0 m 60 ls [.int r_24, .int r_22]) rfl ?_
        refine lv_icmp_eq (tgt := 72) hx hb d_M_support_60 (by decide) (fun c9 => absurd c9 hc6) (fun _ => ?_)
        refine lv_iload_n hx hb d_M_support_63 rfl (lv_at hl 2 rfl) ?_
        refine lv_iconst (v := 1) hx hb d_M_support_64 (by decide) ?_
        refine lv_iload hx hb d_M_support_65 (lv_at hl 4 rfl) ?_
        refine lv_ishl hx hb d_M_support_67 ?_
        refine lv_ior hx hb d_M_support_68 ?_
        refine lv_goto (tgt := 73) hx hb d_M_support_69 (by decide) ?_
        exact w9 p e s m args below meth c A H locs ls F hw (lv_sub hl [0, 1, 3, 4] rfl)
set_option maxRecDepth 100000 in
set_option maxHeartbeats 4000000 in
theorem t_M_support_J80 (l : Launch) (Z : XZ) (u0 : PS) {Kv : Option Value → PS → Prop} {R : Int32 → Int32 → PS → Prop} {E86 : Int32 → PS → Prop} (x0 : Nat) (x1 : Int32) (x2 : Int32) (x3 : Int32) (u : PS) (hR : ∀ (y2 : Int32) (y3 : Int32) (v : PS), R y2 y3 v → XN l Z i_M_support u0 Kv v 26 [(0, .ref x0), (1, .int x1), (2, .int y2), (3, .int y3)] []) (hE86 : ∀ (y2 : Int32) (v : PS), E86 y2 v → XN l Z i_M_support u0 Kv v 86 [(2, .int y2)] []) (k : (p_M_support_J80 R E86 x0 x1 x2 x3 u)) : XN l Z i_M_support u0 Kv u 80 [(0, .ref x0), (1, .int x1), (2, .int x2), (3, .int x3)] [] := by
  unfold p_M_support_J80 at k
  obtain ⟨y1, ey1⟩ : ∃ y9 : Int32, y9 = x3 + 1 := ⟨_, rfl⟩
  have k := k y1 ey1
  obtain ⟨rv, v9, hK, hle_u, w9⟩ := hR x2 y1 u k
  refine ⟨rv, v9, hK, hle_u, ?_⟩
  intro p e s m args below meth c A H locs ls F hw hl
  obtain ⟨⟨hx, hb, hml, hown, hts⟩, hr, hlocks, hmn⟩ := id F
  refine lv_iinc (v := y1) (lv' := [(3, .int y1), (0, .ref x0), (1, .int x1), (2, .int x2)]) hx hb d_M_support_80 hl (k := 3) rfl (by subst ey1; rfl) (by decide) rfl (fun ls hl => ?_)
  refine lv_goto (tgt := 26) hx hb d_M_support_83 (by decide) ?_
  exact w9 p e s m args below meth c A H locs ls F hw (lv_sub hl [1, 2, 3, 0] rfl)
set_option maxRecDepth 100000 in
set_option maxHeartbeats 4000000 in
theorem t_M_support_L26 (l : Launch) (Z : XZ) (u0 : PS) {Kv : Option Value → PS → Prop} {E86 : Int32 → PS → Prop} (x0 : Nat) (x1 : Int32) (hE86 : ∀ (y2 : Int32) (v : PS), E86 y2 v → XN l Z i_M_support u0 Kv v 86 [(2, .int y2)] []) : ∀ (n : Nat) (x2 : Int32) (x3 : Int32) (u : PS), p_M_support_L26 x0 x1 E86 n x2 x3 u → XN l Z i_M_support u0 Kv u 26 [(0, .ref x0), (1, .int x1), (2, .int x2), (3, .int x3)] [] := by
  intro n
  induction n with
  | zero => intro x2 x3 u k; exact False.elim k
  | succ n ih =>
    intro x2 x3 u k
    rw [p_M_support_L26] at k
    by_cases hc1 : 1024 ≤ x3
    · have k := k.1 hc1
      obtain ⟨rv, v9, hK, hle_u, w9⟩ := hE86 x2 u k
      refine ⟨rv, v9, hK, hle_u, ?_⟩
      intro p e s m args below meth c A H locs ls F hw hl
      obtain ⟨⟨hx, hb, hml, hown, hts⟩, hr, hlocks, hmn⟩ := id F
      refine lv_iload_n hx hb d_M_support_26 rfl (lv_at hl 3 rfl) ?_
      refine lv_sipush (v := 1024) hx hb d_M_support_27 (by decide) ?_
      refine lv_icmp_ge (tgt := 86) hx hb d_M_support_30 (by decide) (fun _ => ?_) (fun c9 => absurd hc1 c9)
      exact w9 p e s m args below meth c A H locs ls F hw (lv_sub hl [2] rfl)
    · have k := k.2 hc1
      obtain ⟨n2, k⟩ := k
      have hx5 : ∀ (y2_3 : Int32) (v4 : PS), (p_M_support_J80 (p_M_support_L26 x0 x1 E86 n) E86 x0 x1 y2_3 x3 v4) → XN l Z i_M_support u0 Kv v4 80 [(0, .ref x0), (1, .int x1), (2, .int y2_3), (3, .int x3)] [] := by
        intro y2_3 v4 k
        obtain ⟨rv, v9, hK, hle_v4, w9⟩ := t_M_support_J80 l Z u0 x0 x1 y2_3 x3 v4 ih hE86 k
        refine ⟨rv, v9, hK, hle_v4, ?_⟩
        intro p e s m args below meth c A H locs ls F hw hl
        obtain ⟨⟨hx, hb, hml, hown, hts⟩, hr, hlocks, hmn⟩ := id F
        exact w9 p e s m args below meth c A H locs ls F hw (lv_sub hl [0, 1, 2, 3] rfl)
      obtain ⟨rv, v9, hK, hle_u, w9⟩ := t_M_support_L36 l Z u0 x0 x1 x3 hx5 n2 x2 (0 : Int32) u k
      refine ⟨rv, v9, hK, hle_u, ?_⟩
      intro p e s m args below meth c A H locs ls F hw hl
      obtain ⟨⟨hx, hb, hml, hown, hts⟩, hr, hlocks, hmn⟩ := id F
      refine lv_iload_n hx hb d_M_support_26 rfl (lv_at hl 3 rfl) ?_
      refine lv_sipush (v := 1024) hx hb d_M_support_27 (by decide) ?_
      refine lv_icmp_ge (tgt := 86) hx hb d_M_support_30 (by decide) (fun c9 => absurd c9 hc1) (fun _ => ?_)
      refine lv_iconst (v := 0) hx hb d_M_support_33 (by decide) ?_
      refine lv_istore (lv' := [(4, .int 0), (0, .ref x0), (1, .int x1), (2, .int x2), (3, .int x3)]) hx hb d_M_support_34 hl (by decide) rfl (fun ls hl => ?_)
      exact w9 p e s m args below meth c A H locs ls F hw (lv_sub hl [1, 2, 3, 4, 0] rfl)
set_option maxRecDepth 100000 in
set_option maxHeartbeats 4000000 in
theorem t_M_support_J13 (l : Launch) (Z : XZ) (u0 : PS) {K : Int32 → PS → Prop} (x0 : Nat) (x1 : Int32) (s0 : Nat) (s1 : Int32) (u : PS) (k : (p_M_support_J13 K x0 x1 s0 s1 u)) : XN l Z i_M_support u0 (kI K) u 13 [(0, .ref x0), (1, .int x1)] [.int s1, .ref s0] := by
  unfold p_M_support_J13 at k
  obtain ⟨h2, k⟩ := k
  obtain ⟨_, u_19, ⟨r_20, rfl, k⟩, hM1⟩ := c_M_refuse l Z s0 s1 (0 : Int32) u _ k
  by_cases hc3 : r_20 = 0
  · have k := k.1 hc3
    obtain ⟨n4, k⟩ := k
    have hx7 : ∀ (y2_5 : Int32) (v6 : PS), (K y2_5 v6) → XN l Z i_M_support u0 (kI K) v6 86 [(2, .int y2_5)] [] := by
      intro y2_5 v6 k
      have hle_v6 : x_le v6 v6 := x_le.rf v6
      refine ⟨some (.int y2_5), v6, ⟨y2_5, rfl, k⟩, hle_v6, ?_⟩
      intro p e s m args below meth c A H locs ls F hw hl
      obtain ⟨⟨hx, hb, hml, hown, hts⟩, hr, hlocks, hmn⟩ := id F
      refine lv_iload_n hx hb d_M_support_86 rfl (lv_at hl 0 rfl) ?_
      exact xr_iret F rfl hw d_M_support_87
    obtain ⟨rv, v9, hK, hle_u_19, w9⟩ := t_M_support_L26 l Z u0 x0 x1 hx7 n4 (0 : Int32) (0 : Int32) u_19 k
    have hle_u : x_le u v9 := (hM1.1).tr hle_u_19
    refine ⟨rv, v9, hK, hle_u, ?_⟩
    intro p e s m args below meth c A H locs ls F hw hl
    obtain ⟨⟨hx, hb, hml, hown, hts⟩, hr, hlocks, hmn⟩ := id F
    refine lv_iconst (v := 0) hx hb d_M_support_13 (by decide) ?_
    refine xr_cV (As := [.int s1, .int 0]) (rest := []) ⟨hx, hb, hml, hown, hts⟩ hw hM1 hle_u_19 (fun _ _ => ⟨callB_of 2 hts (xgood w_929) rfl rfl rfl (hts _ (xm w_8)) (hts _ (xm w_926)) ⟨by decide, by decide, by decide +kernel⟩ ⟨Nat.le_of_ble_eq_true rfl, Nat.le_of_ble_eq_true rfl⟩, (hts _ (xm w_928)), (hts _ (xm wp_38))⟩) (qc := (R_M, F_M, 14)) rfl rfl h2 rfl hl.1 rfl (Nat.le_of_ble_eq_true rfl) d_M_support_14 (fun H locs hw => ?_)
    refine W.eq (g2 := F0 m 17 ls [.int r_20]) rfl ?_
    refine lv_if_eq (tgt := 22) hx hb d_M_support_17 (by decide) (fun _ => ?_) (fun c9 => absurd hc3 c9)
    refine lv_iconst (v := 0) hx hb d_M_support_22 (by decide) ?_
    refine lv_istore_n (lv' := [(2, .int 0), (0, .ref x0), (1, .int x1)]) hx hb d_M_support_23 rfl hl (by decide) rfl (fun ls hl => ?_)
    refine lv_iconst (v := 0) hx hb d_M_support_24 (by decide) ?_
    refine lv_istore_n (lv' := [(3, .int 0), (2, .int 0), (0, .ref x0), (1, .int x1)]) hx hb d_M_support_25 rfl hl (by decide) rfl (fun ls hl => ?_)
    exact w9 p e s m args below meth c A H locs ls F hw (lv_sub hl [2, 3, 1, 0] rfl)
  · have k := k.2 hc3
    have hle_u_19 : x_le u_19 u_19 := x_le.rf u_19
    have hle_u : x_le u u_19 := (hM1.1).tr hle_u_19
    refine ⟨some (.int 0), u_19, ⟨(0 : Int32), rfl, k⟩, hle_u, ?_⟩
    intro p e s m args below meth c A H locs ls F hw hl
    obtain ⟨⟨hx, hb, hml, hown, hts⟩, hr, hlocks, hmn⟩ := id F
    refine lv_iconst (v := 0) hx hb d_M_support_13 (by decide) ?_
    refine xr_cV (As := [.int s1, .int 0]) (rest := []) ⟨hx, hb, hml, hown, hts⟩ hw hM1 hle_u_19 (fun _ _ => ⟨callB_of 2 hts (xgood w_929) rfl rfl rfl (hts _ (xm w_8)) (hts _ (xm w_926)) ⟨by decide, by decide, by decide +kernel⟩ ⟨Nat.le_of_ble_eq_true rfl, Nat.le_of_ble_eq_true rfl⟩, (hts _ (xm w_928)), (hts _ (xm wp_38))⟩) (qc := (R_M, F_M, 14)) rfl rfl h2 rfl hl.1 rfl (Nat.le_of_ble_eq_true rfl) d_M_support_14 (fun H locs hw => ?_)
    refine W.eq (g2 := F0 m 17 ls [.int r_20]) rfl ?_
    refine lv_if_eq (tgt := 22) hx hb d_M_support_17 (by decide) (fun c9 => absurd c9 hc3) (fun _ => ?_)
    refine lv_iconst (v := 0) hx hb d_M_support_20 (by decide) ?_
    exact xr_iret F rfl hw d_M_support_21
set_option maxRecDepth 100000 in
set_option maxHeartbeats 4000000 in
theorem c_M_support (l : Launch) (Z : XZ) (x0 : Nat) (x1 : Int32) (u : PS) (K : Int32 → PS → Prop) (k : p_M_support x0 x1 u K) : ∃ (rv : Option Value) (u1 : PS), (kI K) rv u1 ∧ XMet l Z i_M_support [.ref x0, .int x1] u rv u1 := by
  refine x_met (by decide) rfl (Nat.le_of_ble_eq_true rfl) ?_
  show XN l Z i_M_support u (kI K) u 0 [(0, .ref x0), (1, .int x1)] []
  unfold p_M_support at k
  obtain ⟨_, u_17, ⟨r_18, rfl, k⟩, hM1⟩ := c_M_isPlace l Z x1 u _ k
  by_cases hc2 : r_18 = 0
  · have k := k.2 hc2
    obtain ⟨rv, v9, hK, hle_u_17, w9⟩ := t_M_support_J13 l Z u x0 x1 x0 (1 : Int32) u_17 k
    have hle_u : x_le u v9 := (hM1.1).tr hle_u_17
    refine ⟨rv, v9, hK, hle_u, ?_⟩
    intro p e s m args below meth c A H locs ls F hw hl
    obtain ⟨⟨hx, hb, hml, hown, hts⟩, hr, hlocks, hmn⟩ := id F
    refine lv_aload_n hx hb d_M_support_0 rfl (lv_at hl 0 rfl) ?_
    refine lv_iload_n hx hb d_M_support_1 rfl (lv_at hl 1 rfl) ?_
    refine xr_cS (As := [.int x1]) (rest := [.ref x0]) ⟨hx, hb, hml, hown, hts⟩ hw hM1 hle_u_17 (fun _ _ => ⟨callB_of 1 hts (xgood w_922) rfl rfl rfl (hts _ (xm w_8)) (hts _ (xm w_920)) ⟨by decide, by decide, by decide +kernel⟩ ⟨Nat.le_of_ble_eq_true rfl, Nat.le_of_ble_eq_true rfl⟩, (hts _ (xm w_921))⟩) rfl hl.1 rfl (Nat.le_of_ble_eq_true rfl) d_M_support_2 (fun H locs hw => ?_)
    refine W.eq (g2 := F0 m 5 ls [.int r_18, .ref x0]) rfl ?_
    refine lv_if_ne (tgt := 12) hx hb d_M_support_5 (by decide) (fun c9 => absurd hc2 c9) (fun _ => ?_)
    refine lv_iconst (v := 1) hx hb d_M_support_8 (by decide) ?_
    refine lv_goto (tgt := 13) hx hb d_M_support_9 (by decide) ?_
    exact w9 p e s m args below meth c A H locs ls F hw (lv_sub hl [0, 1] rfl)
  · have k := k.1 hc2
    obtain ⟨rv, v9, hK, hle_u_17, w9⟩ := t_M_support_J13 l Z u x0 x1 x0 (0 : Int32) u_17 k
    have hle_u : x_le u v9 := (hM1.1).tr hle_u_17
    refine ⟨rv, v9, hK, hle_u, ?_⟩
    intro p e s m args below meth c A H locs ls F hw hl
    obtain ⟨⟨hx, hb, hml, hown, hts⟩, hr, hlocks, hmn⟩ := id F
    refine lv_aload_n hx hb d_M_support_0 rfl (lv_at hl 0 rfl) ?_
    refine lv_iload_n hx hb d_M_support_1 rfl (lv_at hl 1 rfl) ?_
    refine xr_cS (As := [.int x1]) (rest := [.ref x0]) ⟨hx, hb, hml, hown, hts⟩ hw hM1 hle_u_17 (fun _ _ => ⟨callB_of 1 hts (xgood w_922) rfl rfl rfl (hts _ (xm w_8)) (hts _ (xm w_920)) ⟨by decide, by decide, by decide +kernel⟩ ⟨Nat.le_of_ble_eq_true rfl, Nat.le_of_ble_eq_true rfl⟩, (hts _ (xm w_921))⟩) rfl hl.1 rfl (Nat.le_of_ble_eq_true rfl) d_M_support_2 (fun H locs hw => ?_)
    refine W.eq (g2 := F0 m 5 ls [.int r_18, .ref x0]) rfl ?_
    refine lv_if_ne (tgt := 12) hx hb d_M_support_5 (by decide) (fun _ => ?_) (fun c9 => absurd c9 hc2)
    refine lv_iconst (v := 0) hx hb d_M_support_12 (by decide) ?_
    exact w9 p e s m args below meth c A H locs ls F hw (lv_sub hl [0, 1] rfl)
set_option maxRecDepth 100000 in
set_option maxHeartbeats 4000000 in
theorem t_M_alike_J68 (l : Launch) (Z : XZ) (u0 : PS) {Kv : Option Value → PS → Prop} {R : Int32 → Int32 → PS → Prop} {E75 : Int32 → PS → Prop} (x0 : Nat) (x1 : Int32) (x2 : Int32) (x4 : Int32) (s0 : Int32) (u : PS) (hR : ∀ (y3 : Int32) (y4 : Int32) (v : PS), R y3 y4 v → XN l Z i_M_alike u0 Kv v 34 [(0, .ref x0), (1, .int x1), (2, .int x2), (3, .int y3), (4, .int y4)] []) (hE75 : ∀ (y3 : Int32) (v : PS), E75 y3 v → XN l Z i_M_alike u0 Kv v 75 [(3, .int y3)] []) (k : (p_M_alike_J68 R E75 x0 x1 x2 x4 s0 u)) : XN l Z i_M_alike u0 Kv u 68 [(0, .ref x0), (1, .int x1), (2, .int x2), (4, .int x4)] [.int s0] := by
  unfold p_M_alike_J68 at k
  obtain ⟨y1, ey1⟩ : ∃ y9 : Int32, y9 = x4 + 1 := ⟨_, rfl⟩
  have k := k y1 ey1
  obtain ⟨rv, v9, hK, hle_u, w9⟩ := hR s0 y1 u k
  refine ⟨rv, v9, hK, hle_u, ?_⟩
  intro p e s m args below meth c A H locs ls F hw hl
  obtain ⟨⟨hx, hb, hml, hown, hts⟩, hr, hlocks, hmn⟩ := id F
  refine lv_istore_n (lv' := [(3, .int s0), (0, .ref x0), (1, .int x1), (2, .int x2), (4, .int x4)]) hx hb d_M_alike_68 rfl hl (by decide) rfl (fun ls hl => ?_)
  refine lv_iinc (v := y1) (lv' := [(4, .int y1), (3, .int s0), (0, .ref x0), (1, .int x1), (2, .int x2)]) hx hb d_M_alike_69 hl (k := 4) rfl (by subst ey1; rfl) (by decide) rfl (fun ls hl => ?_)
  refine lv_goto (tgt := 34) hx hb d_M_alike_72 (by decide) ?_
  exact w9 p e s m args below meth c A H locs ls F hw (lv_sub hl [2, 3, 4, 1, 0] rfl)
set_option maxRecDepth 100000 in
set_option maxHeartbeats 4000000 in
theorem t_M_alike_J67 (l : Launch) (Z : XZ) (u0 : PS) {Kv : Option Value → PS → Prop} {R : Int32 → Int32 → PS → Prop} {E75 : Int32 → PS → Prop} (x0 : Nat) (x1 : Int32) (x2 : Int32) (x4 : Int32) (u : PS) (hR : ∀ (y3 : Int32) (y4 : Int32) (v : PS), R y3 y4 v → XN l Z i_M_alike u0 Kv v 34 [(0, .ref x0), (1, .int x1), (2, .int x2), (3, .int y3), (4, .int y4)] []) (hE75 : ∀ (y3 : Int32) (v : PS), E75 y3 v → XN l Z i_M_alike u0 Kv v 75 [(3, .int y3)] []) (k : (p_M_alike_J67 R E75 x0 x1 x2 x4 u)) : XN l Z i_M_alike u0 Kv u 67 [(0, .ref x0), (1, .int x1), (2, .int x2), (4, .int x4)] [] := by
  unfold p_M_alike_J67 at k
  obtain ⟨rv, v9, hK, hle_u, w9⟩ := t_M_alike_J68 l Z u0 x0 x1 x2 x4 (0 : Int32) u hR hE75 k
  refine ⟨rv, v9, hK, hle_u, ?_⟩
  intro p e s m args below meth c A H locs ls F hw hl
  obtain ⟨⟨hx, hb, hml, hown, hts⟩, hr, hlocks, hmn⟩ := id F
  refine lv_iconst (v := 0) hx hb d_M_alike_67 (by decide) ?_
  exact w9 p e s m args below meth c A H locs ls F hw (lv_sub hl [0, 1, 2, 3] rfl)
set_option maxRecDepth 100000 in
set_option maxHeartbeats 4000000 in
theorem t_M_alike_L34 (l : Launch) (Z : XZ) (u0 : PS) {Kv : Option Value → PS → Prop} {E75 : Int32 → PS → Prop} (x0 : Nat) (x1 : Int32) (x2 : Int32) (hE75 : ∀ (y3 : Int32) (v : PS), E75 y3 v → XN l Z i_M_alike u0 Kv v 75 [(3, .int y3)] []) : ∀ (n : Nat) (x3 : Int32) (x4 : Int32) (u : PS), p_M_alike_L34 x0 x1 x2 E75 n x3 x4 u → XN l Z i_M_alike u0 Kv u 34 [(0, .ref x0), (1, .int x1), (2, .int x2), (3, .int x3), (4, .int x4)] [] := by
  intro n
  induction n with
  | zero => intro x3 x4 u k; exact False.elim k
  | succ n ih =>
    intro x3 x4 u k
    rw [p_M_alike_L34] at k
    by_cases hc1 : 1024 ≤ x4
    · have k := k.1 hc1
      obtain ⟨rv, v9, hK, hle_u, w9⟩ := hE75 x3 u k
      refine ⟨rv, v9, hK, hle_u, ?_⟩
      intro p e s m args below meth c A H locs ls F hw hl
      obtain ⟨⟨hx, hb, hml, hown, hts⟩, hr, hlocks, hmn⟩ := id F
      refine lv_iload hx hb d_M_alike_34 (lv_at hl 4 rfl) ?_
      refine lv_sipush (v := 1024) hx hb d_M_alike_36 (by decide) ?_
      refine lv_icmp_ge (tgt := 75) hx hb d_M_alike_39 (by decide) (fun _ => ?_) (fun c9 => absurd hc1 c9)
      exact w9 p e s m args below meth c A H locs ls F hw (lv_sub hl [3] rfl)
    · have k := k.2 hc1
      by_cases hc2 : x3 = 0
      · have k := k.1 hc2
        obtain ⟨rv, v9, hK, hle_u, w9⟩ := t_M_alike_J67 l Z u0 x0 x1 x2 x4 u ih hE75 k
        refine ⟨rv, v9, hK, hle_u, ?_⟩
        intro p e s m args below meth c A H locs ls F hw hl
        obtain ⟨⟨hx, hb, hml, hown, hts⟩, hr, hlocks, hmn⟩ := id F
        refine lv_iload hx hb d_M_alike_34 (lv_at hl 4 rfl) ?_
        refine lv_sipush (v := 1024) hx hb d_M_alike_36 (by decide) ?_
        refine lv_icmp_ge (tgt := 75) hx hb d_M_alike_39 (by decide) (fun c9 => absurd c9 hc1) (fun _ => ?_)
        refine lv_iload_n hx hb d_M_alike_42 rfl (lv_at hl 3 rfl) ?_
        refine lv_if_eq (tgt := 67) hx hb d_M_alike_43 (by decide) (fun _ => ?_) (fun c9 => absurd hc2 c9)
        exact w9 p e s m args below meth c A H locs ls F hw (lv_sub hl [0, 1, 2, 4] rfl)
      · have k := k.2 hc2
        obtain ⟨h4, k⟩ := k
        obtain ⟨_, u_19, ⟨r_20, rfl, k⟩, hM3⟩ := c_M_is l Z x0 x1 x4 u _ k
        obtain ⟨h6, k⟩ := k
        obtain ⟨_, u_21, ⟨r_22, rfl, k⟩, hM5⟩ := c_M_is l Z x0 x2 x4 u_19 _ k
        by_cases hc7 : r_20 = r_22
        · have k := k.2 hc7
          obtain ⟨rv, v9, hK, hle_u_21, w9⟩ := t_M_alike_J68 l Z u0 x0 x1 x2 x4 (1 : Int32) u_21 ih hE75 k
          have hle_u_19 : x_le u_19 v9 := (hM5.1).tr hle_u_21
          have hle_u : x_le u v9 := (hM3.1).tr hle_u_19
          refine ⟨rv, v9, hK, hle_u, ?_⟩
          intro p e s m args below meth c A H locs ls F hw hl
          obtain ⟨⟨hx, hb, hml, hown, hts⟩, hr, hlocks, hmn⟩ := id F
          refine lv_iload hx hb d_M_alike_34 (lv_at hl 4 rfl) ?_
          refine lv_sipush (v := 1024) hx hb d_M_alike_36 (by decide) ?_
          refine lv_icmp_ge (tgt := 75) hx hb d_M_alike_39 (by decide) (fun c9 => absurd c9 hc1) (fun _ => ?_)
          refine lv_iload_n hx hb d_M_alike_42 rfl (lv_at hl 3 rfl) ?_
          refine lv_if_eq (tgt := 67) hx hb d_M_alike_43 (by decide) (fun c9 => absurd c9 hc2) (fun _ => ?_)
          refine lv_aload_n hx hb d_M_alike_46 rfl (lv_at hl 0 rfl) ?_
          refine lv_iload_n hx hb d_M_alike_47 rfl (lv_at hl 1 rfl) ?_
          refine lv_iload hx hb d_M_alike_48 (lv_at hl 4 rfl) ?_
          refine xr_cV (As := [.int x1, .int x4]) (rest := []) ⟨hx, hb, hml, hown, hts⟩ hw hM3 hle_u_19 (fun _ _ => ⟨callB_of 2 hts (xgood w_944) rfl rfl rfl (hts _ (xm w_8)) (hts _ (xm w_941)) ⟨by decide, by decide, by decide +kernel⟩ ⟨Nat.le_of_ble_eq_true rfl, Nat.le_of_ble_eq_true rfl⟩, (hts _ (xm w_943)), (hts _ (xm wp_39))⟩) (qc := (R_M, F_M, 14)) rfl rfl h4 rfl hl.1 rfl (Nat.le_of_ble_eq_true rfl) d_M_alike_50 (fun H locs hw => ?_)
          refine W.eq (g2 := F0 m 53 ls [.int r_20]) rfl ?_
          refine lv_aload_n hx hb d_M_alike_53 rfl (lv_at hl 0 rfl) ?_
          refine lv_iload_n hx hb d_M_alike_54 rfl (lv_at hl 2 rfl) ?_
          refine lv_iload hx hb d_M_alike_55 (lv_at hl 4 rfl) ?_
          refine xr_cV (As := [.int x2, .int x4]) (rest := [.int r_20]) ⟨hx, hb, hml, hown, hts⟩ hw hM5 hle_u_21 (fun _ _ => ⟨callB_of 2 hts (xgood w_944) rfl rfl rfl (hts _ (xm w_8)) (hts _ (xm w_941)) ⟨by decide, by decide, by decide +kernel⟩ ⟨Nat.le_of_ble_eq_true rfl, Nat.le_of_ble_eq_true rfl⟩, (hts _ (xm w_943)), (hts _ (xm wp_39))⟩) (qc := (R_M, F_M, 14)) rfl rfl h6 rfl hl.1 rfl (Nat.le_of_ble_eq_true rfl) d_M_alike_57 (fun H locs hw => ?_)
          refine W.eq (g2 := F0 m 60 ls [.int r_22, .int r_20]) rfl ?_
          refine lv_icmp_ne (tgt := 67) hx hb d_M_alike_60 (by decide) (fun c9 => absurd hc7 c9) (fun _ => ?_)
          refine lv_iconst (v := 1) hx hb d_M_alike_63 (by decide) ?_
          refine lv_goto (tgt := 68) hx hb d_M_alike_64 (by decide) ?_
          exact w9 p e s m args below meth c A H locs ls F hw (lv_sub hl [0, 1, 2, 4] rfl)
        · have k := k.1 hc7
          obtain ⟨rv, v9, hK, hle_u_21, w9⟩ := t_M_alike_J67 l Z u0 x0 x1 x2 x4 u_21 ih hE75 k
          have hle_u_19 : x_le u_19 v9 := (hM5.1).tr hle_u_21
          have hle_u : x_le u v9 := (hM3.1).tr hle_u_19
          refine ⟨rv, v9, hK, hle_u, ?_⟩
          intro p e s m args below meth c A H locs ls F hw hl
          obtain ⟨⟨hx, hb, hml, hown, hts⟩, hr, hlocks, hmn⟩ := id F
          refine lv_iload hx hb d_M_alike_34 (lv_at hl 4 rfl) ?_
          refine lv_sipush (v := 1024) hx hb d_M_alike_36 (by decide) ?_
          refine lv_icmp_ge (tgt := 75) hx hb d_M_alike_39 (by decide) (fun c9 => absurd c9 hc1) (fun _ => ?_)
          refine lv_iload_n hx hb d_M_alike_42 rfl (lv_at hl 3 rfl) ?_
          refine lv_if_eq (tgt := 67) hx hb d_M_alike_43 (by decide) (fun c9 => absurd c9 hc2) (fun _ => ?_)
          refine lv_aload_n hx hb d_M_alike_46 rfl (lv_at hl 0 rfl) ?_
          refine lv_iload_n hx hb d_M_alike_47 rfl (lv_at hl 1 rfl) ?_
          refine lv_iload hx hb d_M_alike_48 (lv_at hl 4 rfl) ?_
          refine xr_cV (As := [.int x1, .int x4]) (rest := []) ⟨hx, hb, hml, hown, hts⟩ hw hM3 hle_u_19 (fun _ _ => ⟨callB_of 2 hts (xgood w_944) rfl rfl rfl (hts _ (xm w_8)) (hts _ (xm w_941)) ⟨by decide, by decide, by decide +kernel⟩ ⟨Nat.le_of_ble_eq_true rfl, Nat.le_of_ble_eq_true rfl⟩, (hts _ (xm w_943)), (hts _ (xm wp_39))⟩) (qc := (R_M, F_M, 14)) rfl rfl h4 rfl hl.1 rfl (Nat.le_of_ble_eq_true rfl) d_M_alike_50 (fun H locs hw => ?_)
          refine W.eq (g2 := F0 m 53 ls [.int r_20]) rfl ?_
          refine lv_aload_n hx hb d_M_alike_53 rfl (lv_at hl 0 rfl) ?_
          refine lv_iload_n hx hb d_M_alike_54 rfl (lv_at hl 2 rfl) ?_
          refine lv_iload hx hb d_M_alike_55 (lv_at hl 4 rfl) ?_
          refine xr_cV (As := [.int x2, .int x4]) (rest := [.int r_20]) ⟨hx, hb, hml, hown, hts⟩ hw hM5 hle_u_21 (fun _ _ => ⟨callB_of 2 hts (xgood w_944) rfl rfl rfl (hts _ (xm w_8)) (hts _ (xm w_941)) ⟨by decide, by decide, by decide +kernel⟩ ⟨Nat.le_of_ble_eq_true rfl, Nat.le_of_ble_eq_true rfl⟩, (hts _ (xm w_943)), (hts _ (xm wp_39))⟩) (qc := (R_M, F_M, 14)) rfl rfl h6 rfl hl.1 rfl (Nat.le_of_ble_eq_true rfl) d_M_alike_57 (fun H locs hw => ?_)
          refine W.eq (g2 := F0 m 60 ls [.int r_22, .int r_20]) rfl ?_
          refine lv_icmp_ne (tgt := 67) hx hb d_M_alike_60 (by decide) (fun _ => ?_) (fun c9 => absurd c9 hc7)
          exact w9 p e s m args below meth c A H locs ls F hw (lv_sub hl [0, 1, 2, 4] rfl)
set_option maxRecDepth 100000 in
set_option maxHeartbeats 4000000 in
theorem t_M_alike_J20 (l : Launch) (Z : XZ) (u0 : PS) {K : Int32 → PS → Prop} (x0 : Nat) (x1 : Int32) (x2 : Int32) (s0 : Nat) (s1 : Int32) (u : PS) (k : (p_M_alike_J20 K x0 x1 x2 s0 s1 u)) : XN l Z i_M_alike u0 (kI K) u 20 [(0, .ref x0), (1, .int x1), (2, .int x2)] [.int s1, .ref s0] := by
  unfold p_M_alike_J20 at k
  obtain ⟨h2, k⟩ := k
  obtain ⟨_, u_17, ⟨r_18, rfl, k⟩, hM1⟩ := c_M_refuse l Z s0 s1 (0 : Int32) u _ k
  by_cases hc3 : r_18 = 0
  · have k := k.1 hc3
    obtain ⟨n4, k⟩ := k
    have hx7 : ∀ (y3_5 : Int32) (v6 : PS), (xZ y3_5 ∧ K y3_5 v6) → XN l Z i_M_alike u0 (kI K) v6 75 [(3, .int y3_5)] [] := by
      intro y3_5 v6 k
      obtain ⟨hz9, k⟩ := k
      have hle_v6 : x_le v6 v6 := x_le.rf v6
      refine ⟨some (.int y3_5), v6, ⟨y3_5, rfl, k⟩, hle_v6, ?_⟩
      intro p e s m args below meth c A H locs ls F hw hl
      obtain ⟨⟨hx, hb, hml, hown, hts⟩, hr, hlocks, hmn⟩ := id F
      refine lv_iload_n hx hb d_M_alike_75 rfl (lv_at hl 0 rfl) ?_
      exact xr_zret F rfl hz9 hw d_M_alike_76
    obtain ⟨rv, v9, hK, hle_u_17, w9⟩ := t_M_alike_L34 l Z u0 x0 x1 x2 hx7 n4 (1 : Int32) (0 : Int32) u_17 k
    have hle_u : x_le u v9 := (hM1.1).tr hle_u_17
    refine ⟨rv, v9, hK, hle_u, ?_⟩
    intro p e s m args below meth c A H locs ls F hw hl
    obtain ⟨⟨hx, hb, hml, hown, hts⟩, hr, hlocks, hmn⟩ := id F
    refine lv_iconst (v := 0) hx hb d_M_alike_20 (by decide) ?_
    refine xr_cV (As := [.int s1, .int 0]) (rest := []) ⟨hx, hb, hml, hown, hts⟩ hw hM1 hle_u_17 (fun _ _ => ⟨callB_of 2 hts (xgood w_929) rfl rfl rfl (hts _ (xm w_8)) (hts _ (xm w_926)) ⟨by decide, by decide, by decide +kernel⟩ ⟨Nat.le_of_ble_eq_true rfl, Nat.le_of_ble_eq_true rfl⟩, (hts _ (xm w_928)), (hts _ (xm wp_38))⟩) (qc := (R_M, F_M, 14)) rfl rfl h2 rfl hl.1 rfl (Nat.le_of_ble_eq_true rfl) d_M_alike_21 (fun H locs hw => ?_)
    refine W.eq (g2 := F0 m 24 ls [.int r_18]) rfl ?_
    refine lv_if_eq (tgt := 29) hx hb d_M_alike_24 (by decide) (fun _ => ?_) (fun c9 => absurd hc3 c9)
    refine lv_iconst (v := 1) hx hb d_M_alike_29 (by decide) ?_
    refine lv_istore_n (lv' := [(3, .int 1), (0, .ref x0), (1, .int x1), (2, .int x2)]) hx hb d_M_alike_30 rfl hl (by decide) rfl (fun ls hl => ?_)
    refine lv_iconst (v := 0) hx hb d_M_alike_31 (by decide) ?_
    refine lv_istore (lv' := [(4, .int 0), (3, .int 1), (0, .ref x0), (1, .int x1), (2, .int x2)]) hx hb d_M_alike_32 hl (by decide) rfl (fun ls hl => ?_)
    exact w9 p e s m args below meth c A H locs ls F hw (lv_sub hl [2, 3, 4, 1, 0] rfl)
  · have k := k.2 hc3
    obtain ⟨hz9, k⟩ := k
    have hle_u_17 : x_le u_17 u_17 := x_le.rf u_17
    have hle_u : x_le u u_17 := (hM1.1).tr hle_u_17
    refine ⟨some (.int 0), u_17, ⟨(0 : Int32), rfl, k⟩, hle_u, ?_⟩
    intro p e s m args below meth c A H locs ls F hw hl
    obtain ⟨⟨hx, hb, hml, hown, hts⟩, hr, hlocks, hmn⟩ := id F
    refine lv_iconst (v := 0) hx hb d_M_alike_20 (by decide) ?_
    refine xr_cV (As := [.int s1, .int 0]) (rest := []) ⟨hx, hb, hml, hown, hts⟩ hw hM1 hle_u_17 (fun _ _ => ⟨callB_of 2 hts (xgood w_929) rfl rfl rfl (hts _ (xm w_8)) (hts _ (xm w_926)) ⟨by decide, by decide, by decide +kernel⟩ ⟨Nat.le_of_ble_eq_true rfl, Nat.le_of_ble_eq_true rfl⟩, (hts _ (xm w_928)), (hts _ (xm wp_38))⟩) (qc := (R_M, F_M, 14)) rfl rfl h2 rfl hl.1 rfl (Nat.le_of_ble_eq_true rfl) d_M_alike_21 (fun H locs hw => ?_)
    refine W.eq (g2 := F0 m 24 ls [.int r_18]) rfl ?_
    refine lv_if_eq (tgt := 29) hx hb d_M_alike_24 (by decide) (fun c9 => absurd c9 hc3) (fun _ => ?_)
    refine lv_iconst (v := 0) hx hb d_M_alike_27 (by decide) ?_
    exact xr_zret F rfl hz9 hw d_M_alike_28
set_option maxRecDepth 100000 in
set_option maxHeartbeats 4000000 in
theorem t_M_alike_J15 (l : Launch) (Z : XZ) (u0 : PS) {K : Int32 → PS → Prop} (x0 : Nat) (x1 : Int32) (x2 : Int32) (s0 : Nat) (u : PS) (k : (p_M_alike_J15 K x0 x1 x2 s0 u)) : XN l Z i_M_alike u0 (kI K) u 15 [(0, .ref x0), (1, .int x1), (2, .int x2)] [.ref s0] := by
  unfold p_M_alike_J15 at k
  obtain ⟨rv, v9, hK, hle_u, w9⟩ := t_M_alike_J20 l Z u0 x0 x1 x2 s0 (1 : Int32) u k
  refine ⟨rv, v9, hK, hle_u, ?_⟩
  intro p e s m args below meth c A H locs ls F hw hl
  obtain ⟨⟨hx, hb, hml, hown, hts⟩, hr, hlocks, hmn⟩ := id F
  refine lv_iconst (v := 1) hx hb d_M_alike_15 (by decide) ?_
  refine lv_goto (tgt := 20) hx hb d_M_alike_16 (by decide) ?_
  exact w9 p e s m args below meth c A H locs ls F hw (lv_sub hl [0, 1, 2] rfl)
set_option maxRecDepth 100000 in
set_option maxHeartbeats 4000000 in
theorem c_M_alike (l : Launch) (Z : XZ) (x0 : Nat) (x1 : Int32) (x2 : Int32) (u : PS) (K : Int32 → PS → Prop) (k : p_M_alike x0 x1 x2 u K) : ∃ (rv : Option Value) (u1 : PS), (kI K) rv u1 ∧ XMet l Z i_M_alike [.ref x0, .int x1, .int x2] u rv u1 := by
  refine x_met (by decide) rfl (Nat.le_of_ble_eq_true rfl) ?_
  show XN l Z i_M_alike u (kI K) u 0 [(0, .ref x0), (1, .int x1), (2, .int x2)] []
  unfold p_M_alike at k
  obtain ⟨_, u_15, ⟨r_16, rfl, k⟩, hM1⟩ := c_M_isPlace l Z x1 u _ k
  by_cases hc2 : r_16 = 0
  · have k := k.1 hc2
    obtain ⟨rv, v9, hK, hle_u_15, w9⟩ := t_M_alike_J15 l Z u x0 x1 x2 x0 u_15 k
    have hle_u : x_le u v9 := (hM1.1).tr hle_u_15
    refine ⟨rv, v9, hK, hle_u, ?_⟩
    intro p e s m args below meth c A H locs ls F hw hl
    obtain ⟨⟨hx, hb, hml, hown, hts⟩, hr, hlocks, hmn⟩ := id F
    refine lv_aload_n hx hb d_M_alike_0 rfl (lv_at hl 0 rfl) ?_
    refine lv_iload_n hx hb d_M_alike_1 rfl (lv_at hl 1 rfl) ?_
    refine xr_cS (As := [.int x1]) (rest := [.ref x0]) ⟨hx, hb, hml, hown, hts⟩ hw hM1 hle_u_15 (fun _ _ => ⟨callB_of 1 hts (xgood w_922) rfl rfl rfl (hts _ (xm w_8)) (hts _ (xm w_920)) ⟨by decide, by decide, by decide +kernel⟩ ⟨Nat.le_of_ble_eq_true rfl, Nat.le_of_ble_eq_true rfl⟩, (hts _ (xm w_921))⟩) rfl hl.1 rfl (Nat.le_of_ble_eq_true rfl) d_M_alike_2 (fun H locs hw => ?_)
    refine W.eq (g2 := F0 m 5 ls [.int r_16, .ref x0]) rfl ?_
    refine lv_if_eq (tgt := 15) hx hb d_M_alike_5 (by decide) (fun _ => ?_) (fun c9 => absurd hc2 c9)
    exact w9 p e s m args below meth c A H locs ls F hw (lv_sub hl [0, 1, 2] rfl)
  · have k := k.2 hc2
    obtain ⟨_, u_23, ⟨r_24, rfl, k⟩, hM3⟩ := c_M_isPlace l Z x2 u_15 _ k
    by_cases hc4 : r_24 = 0
    · have k := k.2 hc4
      obtain ⟨rv, v9, hK, hle_u_23, w9⟩ := t_M_alike_J15 l Z u x0 x1 x2 x0 u_23 k
      have hle_u_15 : x_le u_15 v9 := (hM3.1).tr hle_u_23
      have hle_u : x_le u v9 := (hM1.1).tr hle_u_15
      refine ⟨rv, v9, hK, hle_u, ?_⟩
      intro p e s m args below meth c A H locs ls F hw hl
      obtain ⟨⟨hx, hb, hml, hown, hts⟩, hr, hlocks, hmn⟩ := id F
      refine lv_aload_n hx hb d_M_alike_0 rfl (lv_at hl 0 rfl) ?_
      refine lv_iload_n hx hb d_M_alike_1 rfl (lv_at hl 1 rfl) ?_
      refine xr_cS (As := [.int x1]) (rest := [.ref x0]) ⟨hx, hb, hml, hown, hts⟩ hw hM1 hle_u_15 (fun _ _ => ⟨callB_of 1 hts (xgood w_922) rfl rfl rfl (hts _ (xm w_8)) (hts _ (xm w_920)) ⟨by decide, by decide, by decide +kernel⟩ ⟨Nat.le_of_ble_eq_true rfl, Nat.le_of_ble_eq_true rfl⟩, (hts _ (xm w_921))⟩) rfl hl.1 rfl (Nat.le_of_ble_eq_true rfl) d_M_alike_2 (fun H locs hw => ?_)
      refine W.eq (g2 := F0 m 5 ls [.int r_16, .ref x0]) rfl ?_
      refine lv_if_eq (tgt := 15) hx hb d_M_alike_5 (by decide) (fun c9 => absurd c9 hc2) (fun _ => ?_)
      refine lv_iload_n hx hb d_M_alike_8 rfl (lv_at hl 2 rfl) ?_
      refine xr_cS (As := [.int x2]) (rest := [.ref x0]) ⟨hx, hb, hml, hown, hts⟩ hw hM3 hle_u_23 (fun _ _ => ⟨callB_of 1 hts (xgood w_922) rfl rfl rfl (hts _ (xm w_8)) (hts _ (xm w_920)) ⟨by decide, by decide, by decide +kernel⟩ ⟨Nat.le_of_ble_eq_true rfl, Nat.le_of_ble_eq_true rfl⟩, (hts _ (xm w_921))⟩) rfl hl.1 rfl (Nat.le_of_ble_eq_true rfl) d_M_alike_9 (fun H locs hw => ?_)
      refine W.eq (g2 := F0 m 12 ls [.int r_24, .ref x0]) rfl ?_
      refine lv_if_ne (tgt := 19) hx hb d_M_alike_12 (by decide) (fun c9 => absurd hc4 c9) (fun _ => ?_)
      exact w9 p e s m args below meth c A H locs ls F hw (lv_sub hl [0, 1, 2] rfl)
    · have k := k.1 hc4
      obtain ⟨rv, v9, hK, hle_u_23, w9⟩ := t_M_alike_J20 l Z u x0 x1 x2 x0 (0 : Int32) u_23 k
      have hle_u_15 : x_le u_15 v9 := (hM3.1).tr hle_u_23
      have hle_u : x_le u v9 := (hM1.1).tr hle_u_15
      refine ⟨rv, v9, hK, hle_u, ?_⟩
      intro p e s m args below meth c A H locs ls F hw hl
      obtain ⟨⟨hx, hb, hml, hown, hts⟩, hr, hlocks, hmn⟩ := id F
      refine lv_aload_n hx hb d_M_alike_0 rfl (lv_at hl 0 rfl) ?_
      refine lv_iload_n hx hb d_M_alike_1 rfl (lv_at hl 1 rfl) ?_
      refine xr_cS (As := [.int x1]) (rest := [.ref x0]) ⟨hx, hb, hml, hown, hts⟩ hw hM1 hle_u_15 (fun _ _ => ⟨callB_of 1 hts (xgood w_922) rfl rfl rfl (hts _ (xm w_8)) (hts _ (xm w_920)) ⟨by decide, by decide, by decide +kernel⟩ ⟨Nat.le_of_ble_eq_true rfl, Nat.le_of_ble_eq_true rfl⟩, (hts _ (xm w_921))⟩) rfl hl.1 rfl (Nat.le_of_ble_eq_true rfl) d_M_alike_2 (fun H locs hw => ?_)
      refine W.eq (g2 := F0 m 5 ls [.int r_16, .ref x0]) rfl ?_
      refine lv_if_eq (tgt := 15) hx hb d_M_alike_5 (by decide) (fun c9 => absurd c9 hc2) (fun _ => ?_)
      refine lv_iload_n hx hb d_M_alike_8 rfl (lv_at hl 2 rfl) ?_
      refine xr_cS (As := [.int x2]) (rest := [.ref x0]) ⟨hx, hb, hml, hown, hts⟩ hw hM3 hle_u_23 (fun _ _ => ⟨callB_of 1 hts (xgood w_922) rfl rfl rfl (hts _ (xm w_8)) (hts _ (xm w_920)) ⟨by decide, by decide, by decide +kernel⟩ ⟨Nat.le_of_ble_eq_true rfl, Nat.le_of_ble_eq_true rfl⟩, (hts _ (xm w_921))⟩) rfl hl.1 rfl (Nat.le_of_ble_eq_true rfl) d_M_alike_9 (fun H locs hw => ?_)
      refine W.eq (g2 := F0 m 12 ls [.int r_24, .ref x0]) rfl ?_
      refine lv_if_ne (tgt := 19) hx hb d_M_alike_12 (by decide) (fun _ => ?_) (fun c9 => absurd c9 hc4)
      refine lv_iconst (v := 0) hx hb d_M_alike_19 (by decide) ?_
      exact w9 p e s m args below meth c A H locs ls F hw (lv_sub hl [0, 1, 2] rfl)
set_option maxRecDepth 100000 in
set_option maxHeartbeats 4000000 in
theorem t_M_isAsked_L6 (l : Launch) (Z : XZ) (u0 : PS) {Kv : Option Value → PS → Prop} {E32 : Int32 → PS → Prop} (x0 : Nat) (x1 : Int32) (x2 : Int32) (x3 : Int32) (hE32 : ∀ (y4 : Int32) (v : PS), E32 y4 v → XN l Z i_M_isAsked u0 Kv v 32 [(0, .ref x0), (1, .int x1), (2, .int x2), (3, .int x3), (4, .int y4)] []) : ∀ (n : Nat) (x4 : Int32) (x5 : Int32) (u : PS), p_M_isAsked_L6 x0 x1 x2 x3 E32 n x4 x5 u → XN l Z i_M_isAsked u0 Kv u 6 [(0, .ref x0), (1, .int x1), (2, .int x2), (3, .int x3), (4, .int x4), (5, .int x5)] [] := by
  intro n
  induction n with
  | zero => intro x4 x5 u k; exact False.elim k
  | succ n ih =>
    intro x4 x5 u k
    rw [p_M_isAsked_L6] at k
    by_cases hc1 : x3 ≤ x5
    · have k := k.1 hc1
      obtain ⟨rv, v9, hK, hle_u, w9⟩ := hE32 x4 u k
      refine ⟨rv, v9, hK, hle_u, ?_⟩
      intro p e s m args below meth c A H locs ls F hw hl
      obtain ⟨⟨hx, hb, hml, hown, hts⟩, hr, hlocks, hmn⟩ := id F
      refine lv_iload hx hb d_M_isAsked_6 (lv_at hl 5 rfl) ?_
      refine lv_iload_n hx hb d_M_isAsked_8 rfl (lv_at hl 3 rfl) ?_
      refine lv_icmp_ge (tgt := 32) hx hb d_M_isAsked_9 (by decide) (fun _ => ?_) (fun c9 => absurd hc1 c9)
      exact w9 p e s m args below meth c A H locs ls F hw (lv_sub hl [0, 1, 2, 3, 4] rfl)
    · have k := k.2 hc1
      obtain ⟨z_18, h2, k⟩ := k
      obtain ⟨z_19, h3, k⟩ := k
      obtain ⟨y4, ey4⟩ : ∃ y9 : Int32, y9 = (x4 ||| ((1 : Int32) <<< (z_19 &&& 31))) := ⟨_, rfl⟩
      have k := k y4 ey4
      obtain ⟨y5, ey5⟩ : ∃ y9 : Int32, y9 = x5 + 1 := ⟨_, rfl⟩
      have k := k y5 ey5
      obtain ⟨rv, v9, hK, hle_u, w9⟩ := ih y4 y5 u k
      refine ⟨rv, v9, hK, hle_u, ?_⟩
      intro p e s m args below meth c A H locs ls F hw hl
      obtain ⟨⟨hx, hb, hml, hown, hts⟩, hr, hlocks, hmn⟩ := id F
      refine lv_iload hx hb d_M_isAsked_6 (lv_at hl 5 rfl) ?_
      refine lv_iload_n hx hb d_M_isAsked_8 rfl (lv_at hl 3 rfl) ?_
      refine lv_icmp_ge (tgt := 32) hx hb d_M_isAsked_9 (by decide) (fun c9 => absurd c9 hc1) (fun _ => ?_)
      refine lv_iload hx hb d_M_isAsked_12 (lv_at hl 4 rfl) ?_
      refine lv_iconst (v := 1) hx hb d_M_isAsked_14 (by decide) ?_
      refine lv_aload_n hx hb d_M_isAsked_15 rfl (lv_at hl 0 rfl) ?_
      refine xr_get hx hb hts (xmu uws_M) hown hw h2 rfl (by decide) (hts _ (xm w_871)) (fun _ h9 => h9) d_M_isAsked_16 ?_
      refine lv_iload hx hb d_M_isAsked_19 (lv_at hl 5 rfl) ?_
      refine xr_iald hx hb hw h3 d_M_isAsked_21 ?_
      refine lv_ishl hx hb d_M_isAsked_22 ?_
      refine lv_ior hx hb d_M_isAsked_23 ?_
      refine lv_istore (lv' := [(4, .int y4), (0, .ref x0), (1, .int x1), (2, .int x2), (3, .int x3), (5, .int x5)]) hx hb d_M_isAsked_24 hl (by decide) (by subst ey4; rfl) (fun ls hl => ?_)
      refine lv_iinc (v := y5) (lv' := [(5, .int y5), (4, .int y4), (0, .ref x0), (1, .int x1), (2, .int x2), (3, .int x3)]) hx hb d_M_isAsked_26 hl (k := 5) rfl (by subst ey5; rfl) (by decide) rfl (fun ls hl => ?_)
      refine lv_goto (tgt := 6) hx hb d_M_isAsked_29 (by decide) ?_
      exact w9 p e s m args below meth c A H locs ls F hw (lv_sub hl [2, 3, 4, 5, 1, 0] rfl)
set_option maxRecDepth 100000 in
set_option maxHeartbeats 4000000 in
theorem t_M_isAsked_J94 (l : Launch) (Z : XZ) (u0 : PS) {Kv : Option Value → PS → Prop} {R : Int32 → Int32 → PS → Prop} {E102 : Int32 → PS → Prop} (x0 : Nat) (x1 : Int32) (x2 : Int32) (x3 : Int32) (x4 : Int32) (x6 : Int32) (s0 : Int32) (u : PS) (hR : ∀ (y5 : Int32) (y6 : Int32) (v : PS), R y5 y6 v → XN l Z i_M_isAsked u0 Kv v 38 [(0, .ref x0), (1, .int x1), (2, .int x2), (3, .int x3), (4, .int x4), (5, .int y5), (6, .int y6)] []) (hE102 : ∀ (y5 : Int32) (v : PS), E102 y5 v → XN l Z i_M_isAsked u0 Kv v 102 [(5, .int y5)] []) (k : (p_M_isAsked_J94 R E102 x0 x1 x2 x3 x4 x6 s0 u)) : XN l Z i_M_isAsked u0 Kv u 94 [(0, .ref x0), (1, .int x1), (2, .int x2), (3, .int x3), (4, .int x4), (6, .int x6)] [.int s0] := by
  unfold p_M_isAsked_J94 at k
  obtain ⟨y1, ey1⟩ : ∃ y9 : Int32, y9 = x6 + 1 := ⟨_, rfl⟩
  have k := k y1 ey1
  obtain ⟨rv, v9, hK, hle_u, w9⟩ := hR s0 y1 u k
  refine ⟨rv, v9, hK, hle_u, ?_⟩
  intro p e s m args below meth c A H locs ls F hw hl
  obtain ⟨⟨hx, hb, hml, hown, hts⟩, hr, hlocks, hmn⟩ := id F
  refine lv_istore (lv' := [(5, .int s0), (0, .ref x0), (1, .int x1), (2, .int x2), (3, .int x3), (4, .int x4), (6, .int x6)]) hx hb d_M_isAsked_94 hl (by decide) rfl (fun ls hl => ?_)
  refine lv_iinc (v := y1) (lv' := [(6, .int y1), (5, .int s0), (0, .ref x0), (1, .int x1), (2, .int x2), (3, .int x3), (4, .int x4)]) hx hb d_M_isAsked_96 hl (k := 6) rfl (by subst ey1; rfl) (by decide) rfl (fun ls hl => ?_)
  refine lv_goto (tgt := 38) hx hb d_M_isAsked_99 (by decide) ?_
  exact w9 p e s m args below meth c A H locs ls F hw (lv_sub hl [2, 3, 4, 5, 6, 1, 0] rfl)
set_option maxRecDepth 100000 in
set_option maxHeartbeats 4000000 in
theorem t_M_isAsked_J93 (l : Launch) (Z : XZ) (u0 : PS) {Kv : Option Value → PS → Prop} {R : Int32 → Int32 → PS → Prop} {E102 : Int32 → PS → Prop} (x0 : Nat) (x1 : Int32) (x2 : Int32) (x3 : Int32) (x4 : Int32) (x6 : Int32) (u : PS) (hR : ∀ (y5 : Int32) (y6 : Int32) (v : PS), R y5 y6 v → XN l Z i_M_isAsked u0 Kv v 38 [(0, .ref x0), (1, .int x1), (2, .int x2), (3, .int x3), (4, .int x4), (5, .int y5), (6, .int y6)] []) (hE102 : ∀ (y5 : Int32) (v : PS), E102 y5 v → XN l Z i_M_isAsked u0 Kv v 102 [(5, .int y5)] []) (k : (p_M_isAsked_J93 R E102 x0 x1 x2 x3 x4 x6 u)) : XN l Z i_M_isAsked u0 Kv u 93 [(0, .ref x0), (1, .int x1), (2, .int x2), (3, .int x3), (4, .int x4), (6, .int x6)] [] := by
  unfold p_M_isAsked_J93 at k
  obtain ⟨rv, v9, hK, hle_u, w9⟩ := t_M_isAsked_J94 l Z u0 x0 x1 x2 x3 x4 x6 (0 : Int32) u hR hE102 k
  refine ⟨rv, v9, hK, hle_u, ?_⟩
  intro p e s m args below meth c A H locs ls F hw hl
  obtain ⟨⟨hx, hb, hml, hown, hts⟩, hr, hlocks, hmn⟩ := id F
  refine lv_iconst (v := 0) hx hb d_M_isAsked_93 (by decide) ?_
  exact w9 p e s m args below meth c A H locs ls F hw (lv_sub hl [0, 1, 2, 3, 4, 5] rfl)
set_option maxRecDepth 100000 in
set_option maxHeartbeats 4000000 in
theorem t_M_isAsked_J89 (l : Launch) (Z : XZ) (u0 : PS) {Kv : Option Value → PS → Prop} {R : Int32 → Int32 → PS → Prop} {E102 : Int32 → PS → Prop} (x0 : Nat) (x1 : Int32) (x2 : Int32) (x3 : Int32) (x4 : Int32) (x6 : Int32) (u : PS) (hR : ∀ (y5 : Int32) (y6 : Int32) (v : PS), R y5 y6 v → XN l Z i_M_isAsked u0 Kv v 38 [(0, .ref x0), (1, .int x1), (2, .int x2), (3, .int x3), (4, .int x4), (5, .int y5), (6, .int y6)] []) (hE102 : ∀ (y5 : Int32) (v : PS), E102 y5 v → XN l Z i_M_isAsked u0 Kv v 102 [(5, .int y5)] []) (k : (p_M_isAsked_J89 R E102 x0 x1 x2 x3 x4 x6 u)) : XN l Z i_M_isAsked u0 Kv u 89 [(0, .ref x0), (1, .int x1), (2, .int x2), (3, .int x3), (4, .int x4), (6, .int x6)] [] := by
  unfold p_M_isAsked_J89 at k
  obtain ⟨rv, v9, hK, hle_u, w9⟩ := t_M_isAsked_J94 l Z u0 x0 x1 x2 x3 x4 x6 (1 : Int32) u hR hE102 k
  refine ⟨rv, v9, hK, hle_u, ?_⟩
  intro p e s m args below meth c A H locs ls F hw hl
  obtain ⟨⟨hx, hb, hml, hown, hts⟩, hr, hlocks, hmn⟩ := id F
  refine lv_iconst (v := 1) hx hb d_M_isAsked_89 (by decide) ?_
  refine lv_goto (tgt := 94) hx hb d_M_isAsked_90 (by decide) ?_
  exact w9 p e s m args below meth c A H locs ls F hw (lv_sub hl [0, 1, 2, 3, 4, 5] rfl)
set_option maxRecDepth 100000 in
set_option maxHeartbeats 4000000 in
theorem t_M_isAsked_L38 (l : Launch) (Z : XZ) (u0 : PS) {Kv : Option Value → PS → Prop} {E102 : Int32 → PS → Prop} (x0 : Nat) (x1 : Int32) (x2 : Int32) (x3 : Int32) (x4 : Int32) (hE102 : ∀ (y5 : Int32) (v : PS), E102 y5 v → XN l Z i_M_isAsked u0 Kv v 102 [(5, .int y5)] []) : ∀ (n : Nat) (x5 : Int32) (x6 : Int32) (u : PS), p_M_isAsked_L38 x0 x1 x2 x3 x4 E102 n x5 x6 u → XN l Z i_M_isAsked u0 Kv u 38 [(0, .ref x0), (1, .int x1), (2, .int x2), (3, .int x3), (4, .int x4), (5, .int x5), (6, .int x6)] [] := by
  intro n
  induction n with
  | zero => intro x5 x6 u k; exact False.elim k
  | succ n ih =>
    intro x5 x6 u k
    rw [p_M_isAsked_L38] at k
    by_cases hc1 : 1024 ≤ x6
    · have k := k.1 hc1
      obtain ⟨rv, v9, hK, hle_u, w9⟩ := hE102 x5 u k
      refine ⟨rv, v9, hK, hle_u, ?_⟩
      intro p e s m args below meth c A H locs ls F hw hl
      obtain ⟨⟨hx, hb, hml, hown, hts⟩, hr, hlocks, hmn⟩ := id F
      refine lv_iload hx hb d_M_isAsked_38 (lv_at hl 6 rfl) ?_
      refine lv_sipush (v := 1024) hx hb d_M_isAsked_40 (by decide) ?_
      refine lv_icmp_ge (tgt := 102) hx hb d_M_isAsked_43 (by decide) (fun _ => ?_) (fun c9 => absurd hc1 c9)
      exact w9 p e s m args below meth c A H locs ls F hw (lv_sub hl [5] rfl)
    · have k := k.2 hc1
      by_cases hc2 : x5 = 0
      · have k := k.2 hc2
        by_cases hc3 : (x6 &&& x4) = (x2 &&& x4)
        · have k := k.2 hc3
          obtain ⟨h5, k⟩ := k
          obtain ⟨_, u_20, ⟨r_21, rfl, k⟩, hM4⟩ := c_M_is l Z x0 x1 x6 u _ k
          obtain ⟨z_22, h6, k⟩ := k
          obtain ⟨z_23, h7, k⟩ := k
          obtain ⟨h9, k⟩ := k
          obtain ⟨_, u_24, ⟨r_25, rfl, k⟩, hM8⟩ := c_M_is l Z x0 x1 (x6 ^^^ ((1 : Int32) <<< (z_23 &&& 31))) u_20 _ k
          by_cases hc10 : r_21 = r_25
          · have k := k.1 hc10
            obtain ⟨rv, v9, hK, hle_u_24, w9⟩ := t_M_isAsked_J93 l Z u0 x0 x1 x2 x3 x4 x6 u_24 ih hE102 k
            have hle_u_20 : x_le u_20 v9 := (hM8.1).tr hle_u_24
            have hle_u : x_le u v9 := (hM4.1).tr hle_u_20
            refine ⟨rv, v9, hK, hle_u, ?_⟩
            intro p e s m args below meth c A H locs ls F hw hl
            obtain ⟨⟨hx, hb, hml, hown, hts⟩, hr, hlocks, hmn⟩ := id F
            refine lv_iload hx hb d_M_isAsked_38 (lv_at hl 6 rfl) ?_
            refine lv_sipush (v := 1024) hx hb d_M_isAsked_40 (by decide) ?_
            refine lv_icmp_ge (tgt := 102) hx hb d_M_isAsked_43 (by decide) (fun c9 => absurd c9 hc1) (fun _ => ?_)
            refine lv_iload hx hb d_M_isAsked_46 (lv_at hl 5 rfl) ?_
            refine lv_if_ne (tgt := 89) hx hb d_M_isAsked_48 (by decide) (fun c9 => absurd hc2 c9) (fun _ => ?_)
            refine lv_iload hx hb d_M_isAsked_51 (lv_at hl 6 rfl) ?_
            refine lv_iload hx hb d_M_isAsked_53 (lv_at hl 4 rfl) ?_
            refine lv_iand hx hb d_M_isAsked_55 ?_
            refine lv_iload_n hx hb d_M_isAsked_56 rfl (lv_at hl 2 rfl) ?_
            refine lv_iload hx hb d_M_isAsked_57 (lv_at hl 4 rfl) ?_
            refine lv_iand hx hb d_M_isAsked_59 ?_
            refine lv_icmp_ne (tgt := 93) hx hb d_M_isAsked_60 (by decide) (fun c9 => absurd hc3 c9) (fun _ => ?_)
            refine lv_aload_n hx hb d_M_isAsked_63 rfl (lv_at hl 0 rfl) ?_
            refine lv_iload_n hx hb d_M_isAsked_64 rfl (lv_at hl 1 rfl) ?_
            refine lv_iload hx hb d_M_isAsked_65 (lv_at hl 6 rfl) ?_
            refine xr_cV (As := [.int x1, .int x6]) (rest := []) ⟨hx, hb, hml, hown, hts⟩ hw hM4 hle_u_20 (fun _ _ => ⟨callB_of 2 hts (xgood w_944) rfl rfl rfl (hts _ (xm w_8)) (hts _ (xm w_941)) ⟨by decide, by decide, by decide +kernel⟩ ⟨Nat.le_of_ble_eq_true rfl, Nat.le_of_ble_eq_true rfl⟩, (hts _ (xm w_943)), (hts _ (xm wp_39))⟩) (qc := (R_M, F_M, 14)) rfl rfl h5 rfl hl.1 rfl (Nat.le_of_ble_eq_true rfl) d_M_isAsked_67 (fun H locs hw => ?_)
            refine W.eq (g2 := F0 m 70 ls [.int r_21]) rfl ?_
            refine lv_aload_n hx hb d_M_isAsked_70 rfl (lv_at hl 0 rfl) ?_
            refine lv_iload_n hx hb d_M_isAsked_71 rfl (lv_at hl 1 rfl) ?_
            refine lv_iload hx hb d_M_isAsked_72 (lv_at hl 6 rfl) ?_
            refine lv_iconst (v := 1) hx hb d_M_isAsked_74 (by decide) ?_
            refine lv_aload_n hx hb d_M_isAsked_75 rfl (lv_at hl 0 rfl) ?_
            refine xr_get hx hb hts (xmu uws_M) hown hw h6 rfl (by decide) (hts _ (xm w_871)) (fun _ h9 => h9) d_M_isAsked_76 ?_
            refine lv_iload_n hx hb d_M_isAsked_79 rfl (lv_at hl 3 rfl) ?_
            refine xr_iald hx hb hw h7 d_M_isAsked_80 ?_
            refine lv_ishl hx hb d_M_isAsked_81 ?_
            refine lv_ixor hx hb d_M_isAsked_82 ?_
            refine xr_cV (As := [.int x1, .int (x6 ^^^ ((1 : Int32) <<< (z_23 &&& 31)))]) (rest := [.int r_21]) ⟨hx, hb, hml, hown, hts⟩ hw hM8 hle_u_24 (fun _ _ => ⟨callB_of 2 hts (xgood w_944) rfl rfl rfl (hts _ (xm w_8)) (hts _ (xm w_941)) ⟨by decide, by decide, by decide +kernel⟩ ⟨Nat.le_of_ble_eq_true rfl, Nat.le_of_ble_eq_true rfl⟩, (hts _ (xm w_943)), (hts _ (xm wp_39))⟩) (qc := (R_M, F_M, 14)) rfl rfl h9 rfl hl.1 rfl (Nat.le_of_ble_eq_true rfl) d_M_isAsked_83 (fun H locs hw => ?_)
            refine W.eq (g2 := F0 m 86 ls [.int r_25, .int r_21]) rfl ?_
            refine lv_icmp_eq (tgt := 93) hx hb d_M_isAsked_86 (by decide) (fun _ => ?_) (fun c9 => absurd hc10 c9)
            exact w9 p e s m args below meth c A H locs ls F hw (lv_sub hl [0, 1, 2, 3, 4, 6] rfl)
          · have k := k.2 hc10
            obtain ⟨rv, v9, hK, hle_u_24, w9⟩ := t_M_isAsked_J89 l Z u0 x0 x1 x2 x3 x4 x6 u_24 ih hE102 k
            have hle_u_20 : x_le u_20 v9 := (hM8.1).tr hle_u_24
            have hle_u : x_le u v9 := (hM4.1).tr hle_u_20
            refine ⟨rv, v9, hK, hle_u, ?_⟩
            intro p e s m args below meth c A H locs ls F hw hl
            obtain ⟨⟨hx, hb, hml, hown, hts⟩, hr, hlocks, hmn⟩ := id F
            refine lv_iload hx hb d_M_isAsked_38 (lv_at hl 6 rfl) ?_
            refine lv_sipush (v := 1024) hx hb d_M_isAsked_40 (by decide) ?_
            refine lv_icmp_ge (tgt := 102) hx hb d_M_isAsked_43 (by decide) (fun c9 => absurd c9 hc1) (fun _ => ?_)
            refine lv_iload hx hb d_M_isAsked_46 (lv_at hl 5 rfl) ?_
            refine lv_if_ne (tgt := 89) hx hb d_M_isAsked_48 (by decide) (fun c9 => absurd hc2 c9) (fun _ => ?_)
            refine lv_iload hx hb d_M_isAsked_51 (lv_at hl 6 rfl) ?_
            refine lv_iload hx hb d_M_isAsked_53 (lv_at hl 4 rfl) ?_
            refine lv_iand hx hb d_M_isAsked_55 ?_
            refine lv_iload_n hx hb d_M_isAsked_56 rfl (lv_at hl 2 rfl) ?_
            refine lv_iload hx hb d_M_isAsked_57 (lv_at hl 4 rfl) ?_
            refine lv_iand hx hb d_M_isAsked_59 ?_
            refine lv_icmp_ne (tgt := 93) hx hb d_M_isAsked_60 (by decide) (fun c9 => absurd hc3 c9) (fun _ => ?_)
            refine lv_aload_n hx hb d_M_isAsked_63 rfl (lv_at hl 0 rfl) ?_
            refine lv_iload_n hx hb d_M_isAsked_64 rfl (lv_at hl 1 rfl) ?_
            refine lv_iload hx hb d_M_isAsked_65 (lv_at hl 6 rfl) ?_
            refine xr_cV (As := [.int x1, .int x6]) (rest := []) ⟨hx, hb, hml, hown, hts⟩ hw hM4 hle_u_20 (fun _ _ => ⟨callB_of 2 hts (xgood w_944) rfl rfl rfl (hts _ (xm w_8)) (hts _ (xm w_941)) ⟨by decide, by decide, by decide +kernel⟩ ⟨Nat.le_of_ble_eq_true rfl, Nat.le_of_ble_eq_true rfl⟩, (hts _ (xm w_943)), (hts _ (xm wp_39))⟩) (qc := (R_M, F_M, 14)) rfl rfl h5 rfl hl.1 rfl (Nat.le_of_ble_eq_true rfl) d_M_isAsked_67 (fun H locs hw => ?_)
            refine W.eq (g2 := F0 m 70 ls [.int r_21]) rfl ?_
            refine lv_aload_n hx hb d_M_isAsked_70 rfl (lv_at hl 0 rfl) ?_
            refine lv_iload_n hx hb d_M_isAsked_71 rfl (lv_at hl 1 rfl) ?_
            refine lv_iload hx hb d_M_isAsked_72 (lv_at hl 6 rfl) ?_
            refine lv_iconst (v := 1) hx hb d_M_isAsked_74 (by decide) ?_
            refine lv_aload_n hx hb d_M_isAsked_75 rfl (lv_at hl 0 rfl) ?_
            refine xr_get hx hb hts (xmu uws_M) hown hw h6 rfl (by decide) (hts _ (xm w_871)) (fun _ h9 => h9) d_M_isAsked_76 ?_
            refine lv_iload_n hx hb d_M_isAsked_79 rfl (lv_at hl 3 rfl) ?_
            refine xr_iald hx hb hw h7 d_M_isAsked_80 ?_
            refine lv_ishl hx hb d_M_isAsked_81 ?_
            refine lv_ixor hx hb d_M_isAsked_82 ?_
            refine xr_cV (As := [.int x1, .int (x6 ^^^ ((1 : Int32) <<< (z_23 &&& 31)))]) (rest := [.int r_21]) ⟨hx, hb, hml, hown, hts⟩ hw hM8 hle_u_24 (fun _ _ => ⟨callB_of 2 hts (xgood w_944) rfl rfl rfl (hts _ (xm w_8)) (hts _ (xm w_941)) ⟨by decide, by decide, by decide +kernel⟩ ⟨Nat.le_of_ble_eq_true rfl, Nat.le_of_ble_eq_true rfl⟩, (hts _ (xm w_943)), (hts _ (xm wp_39))⟩) (qc := (R_M, F_M, 14)) rfl rfl h9 rfl hl.1 rfl (Nat.le_of_ble_eq_true rfl) d_M_isAsked_83 (fun H locs hw => ?_)
            refine W.eq (g2 := F0 m 86 ls [.int r_25, .int r_21]) rfl ?_
            refine lv_icmp_eq (tgt := 93) hx hb d_M_isAsked_86 (by decide) (fun c9 => absurd c9 hc10) (fun _ => ?_)
            exact w9 p e s m args below meth c A H locs ls F hw (lv_sub hl [0, 1, 2, 3, 4, 6] rfl)
        · have k := k.1 hc3
          obtain ⟨rv, v9, hK, hle_u, w9⟩ := t_M_isAsked_J93 l Z u0 x0 x1 x2 x3 x4 x6 u ih hE102 k
          refine ⟨rv, v9, hK, hle_u, ?_⟩
          intro p e s m args below meth c A H locs ls F hw hl
          obtain ⟨⟨hx, hb, hml, hown, hts⟩, hr, hlocks, hmn⟩ := id F
          refine lv_iload hx hb d_M_isAsked_38 (lv_at hl 6 rfl) ?_
          refine lv_sipush (v := 1024) hx hb d_M_isAsked_40 (by decide) ?_
          refine lv_icmp_ge (tgt := 102) hx hb d_M_isAsked_43 (by decide) (fun c9 => absurd c9 hc1) (fun _ => ?_)
          refine lv_iload hx hb d_M_isAsked_46 (lv_at hl 5 rfl) ?_
          refine lv_if_ne (tgt := 89) hx hb d_M_isAsked_48 (by decide) (fun c9 => absurd hc2 c9) (fun _ => ?_)
          refine lv_iload hx hb d_M_isAsked_51 (lv_at hl 6 rfl) ?_
          refine lv_iload hx hb d_M_isAsked_53 (lv_at hl 4 rfl) ?_
          refine lv_iand hx hb d_M_isAsked_55 ?_
          refine lv_iload_n hx hb d_M_isAsked_56 rfl (lv_at hl 2 rfl) ?_
          refine lv_iload hx hb d_M_isAsked_57 (lv_at hl 4 rfl) ?_
          refine lv_iand hx hb d_M_isAsked_59 ?_
          refine lv_icmp_ne (tgt := 93) hx hb d_M_isAsked_60 (by decide) (fun _ => ?_) (fun c9 => absurd c9 hc3)
          exact w9 p e s m args below meth c A H locs ls F hw (lv_sub hl [0, 1, 2, 3, 4, 6] rfl)
      · have k := k.1 hc2
        obtain ⟨rv, v9, hK, hle_u, w9⟩ := t_M_isAsked_J89 l Z u0 x0 x1 x2 x3 x4 x6 u ih hE102 k
        refine ⟨rv, v9, hK, hle_u, ?_⟩
        intro p e s m args below meth c A H locs ls F hw hl
        obtain ⟨⟨hx, hb, hml, hown, hts⟩, hr, hlocks, hmn⟩ := id F
        refine lv_iload hx hb d_M_isAsked_38 (lv_at hl 6 rfl) ?_
        refine lv_sipush (v := 1024) hx hb d_M_isAsked_40 (by decide) ?_
        refine lv_icmp_ge (tgt := 102) hx hb d_M_isAsked_43 (by decide) (fun c9 => absurd c9 hc1) (fun _ => ?_)
        refine lv_iload hx hb d_M_isAsked_46 (lv_at hl 5 rfl) ?_
        refine lv_if_ne (tgt := 89) hx hb d_M_isAsked_48 (by decide) (fun _ => ?_) (fun c9 => absurd c9 hc2)
        exact w9 p e s m args below meth c A H locs ls F hw (lv_sub hl [0, 1, 2, 3, 4, 6] rfl)
set_option maxRecDepth 100000 in
set_option maxHeartbeats 4000000 in
theorem t_M_isAsked_J32 (l : Launch) (Z : XZ) (u0 : PS) {K : Int32 → PS → Prop} (x0 : Nat) (x1 : Int32) (x2 : Int32) (x3 : Int32) (x4 : Int32) (u : PS) (k : (p_M_isAsked_J32 K x0 x1 x2 x3 x4 u)) : XN l Z i_M_isAsked u0 (kI K) u 32 [(0, .ref x0), (1, .int x1), (2, .int x2), (3, .int x3), (4, .int x4)] [] := by
  unfold p_M_isAsked_J32 at k
  obtain ⟨n1, k⟩ := k
  have hx4 : ∀ (y5_2 : Int32) (v3 : PS), (xZ y5_2 ∧ K y5_2 v3) → XN l Z i_M_isAsked u0 (kI K) v3 102 [(5, .int y5_2)] [] := by
    intro y5_2 v3 k
    obtain ⟨hz9, k⟩ := k
    have hle_v3 : x_le v3 v3 := x_le.rf v3
    refine ⟨some (.int y5_2), v3, ⟨y5_2, rfl, k⟩, hle_v3, ?_⟩
    intro p e s m args below meth c A H locs ls F hw hl
    obtain ⟨⟨hx, hb, hml, hown, hts⟩, hr, hlocks, hmn⟩ := id F
    refine lv_iload hx hb d_M_isAsked_102 (lv_at hl 0 rfl) ?_
    exact xr_zret F rfl hz9 hw d_M_isAsked_104
  obtain ⟨rv, v9, hK, hle_u, w9⟩ := t_M_isAsked_L38 l Z u0 x0 x1 x2 x3 x4 hx4 n1 (0 : Int32) (0 : Int32) u k
  refine ⟨rv, v9, hK, hle_u, ?_⟩
  intro p e s m args below meth c A H locs ls F hw hl
  obtain ⟨⟨hx, hb, hml, hown, hts⟩, hr, hlocks, hmn⟩ := id F
  refine lv_iconst (v := 0) hx hb d_M_isAsked_32 (by decide) ?_
  refine lv_istore (lv' := [(5, .int 0), (0, .ref x0), (1, .int x1), (2, .int x2), (3, .int x3), (4, .int x4)]) hx hb d_M_isAsked_33 hl (by decide) rfl (fun ls hl => ?_)
  refine lv_iconst (v := 0) hx hb d_M_isAsked_35 (by decide) ?_
  refine lv_istore (lv' := [(6, .int 0), (5, .int 0), (0, .ref x0), (1, .int x1), (2, .int x2), (3, .int x3), (4, .int x4)]) hx hb d_M_isAsked_36 hl (by decide) rfl (fun ls hl => ?_)
  exact w9 p e s m args below meth c A H locs ls F hw (lv_sub hl [2, 3, 4, 5, 6, 1, 0] rfl)
set_option maxRecDepth 100000 in
set_option maxHeartbeats 4000000 in
theorem c_M_isAsked (l : Launch) (Z : XZ) (x0 : Nat) (x1 : Int32) (x2 : Int32) (x3 : Int32) (u : PS) (K : Int32 → PS → Prop) (k : p_M_isAsked x0 x1 x2 x3 u K) : ∃ (rv : Option Value) (u1 : PS), (kI K) rv u1 ∧ XMet l Z i_M_isAsked [.ref x0, .int x1, .int x2, .int x3] u rv u1 := by
  refine x_met (by decide) rfl (Nat.le_of_ble_eq_true rfl) ?_
  show XN l Z i_M_isAsked u (kI K) u 0 [(0, .ref x0), (1, .int x1), (2, .int x2), (3, .int x3)] []
  unfold p_M_isAsked at k
  obtain ⟨n1, k⟩ := k
  have hx4 : ∀ (y4_2 : Int32) (v3 : PS), (p_M_isAsked_J32 K x0 x1 x2 x3 y4_2 v3) → XN l Z i_M_isAsked u (kI K) v3 32 [(0, .ref x0), (1, .int x1), (2, .int x2), (3, .int x3), (4, .int y4_2)] [] := by
    intro y4_2 v3 k
    obtain ⟨rv, v9, hK, hle_v3, w9⟩ := t_M_isAsked_J32 l Z u x0 x1 x2 x3 y4_2 v3 k
    refine ⟨rv, v9, hK, hle_v3, ?_⟩
    intro p e s m args below meth c A H locs ls F hw hl
    obtain ⟨⟨hx, hb, hml, hown, hts⟩, hr, hlocks, hmn⟩ := id F
    exact w9 p e s m args below meth c A H locs ls F hw (lv_sub hl [0, 1, 2, 3, 4] rfl)
  obtain ⟨rv, v9, hK, hle_u, w9⟩ := t_M_isAsked_L6 l Z u x0 x1 x2 x3 hx4 n1 (0 : Int32) (0 : Int32) u k
  refine ⟨rv, v9, hK, hle_u, ?_⟩
  intro p e s m args below meth c A H locs ls F hw hl
  obtain ⟨⟨hx, hb, hml, hown, hts⟩, hr, hlocks, hmn⟩ := id F
  refine lv_iconst (v := 0) hx hb d_M_isAsked_0 (by decide) ?_
  refine lv_istore (lv' := [(4, .int 0), (0, .ref x0), (1, .int x1), (2, .int x2), (3, .int x3)]) hx hb d_M_isAsked_1 hl (by decide) rfl (fun ls hl => ?_)
  refine lv_iconst (v := 0) hx hb d_M_isAsked_3 (by decide) ?_
  refine lv_istore (lv' := [(5, .int 0), (4, .int 0), (0, .ref x0), (1, .int x1), (2, .int x2), (3, .int x3)]) hx hb d_M_isAsked_4 hl (by decide) rfl (fun ls hl => ?_)
  exact w9 p e s m args below meth c A H locs ls F hw (lv_sub hl [2, 3, 4, 5, 1, 0] rfl)
set_option maxRecDepth 100000 in
set_option maxHeartbeats 4000000 in
theorem t_M_asked_J99 (l : Launch) (Z : XZ) (u0 : PS) {Kv : Option Value → PS → Prop} {R : Int32 → Int32 → PS → Prop} {E88 : Int32 → PS → Prop} {E105 : PS → Prop} (x0 : Nat) (x1 : Int32) (x2 : Int32) (x3 : Int32) (x5 : Int32) (x6 : Int32) (u : PS) (hR : ∀ (y5 : Int32) (y6 : Int32) (v : PS), R y5 y6 v → XN l Z i_M_asked u0 Kv v 64 [(0, .ref x0), (1, .int x1), (2, .int x2), (3, .int x3), (5, .int y5), (6, .int y6)] []) (hE88 : ∀ (y6 : Int32) (v : PS), E88 y6 v → XN l Z i_M_asked u0 Kv v 88 [(0, .ref x0), (6, .int y6)] []) (hE105 : ∀ (v : PS), E105 v → XN l Z i_M_asked u0 Kv v 105 [] []) (k : (p_M_asked_J99 R E88 E105 x0 x1 x2 x3 x5 x6 u)) : XN l Z i_M_asked u0 Kv u 99 [(0, .ref x0), (1, .int x1), (2, .int x2), (3, .int x3), (5, .int x5), (6, .int x6)] [] := by
  unfold p_M_asked_J99 at k
  obtain ⟨y1, ey1⟩ : ∃ y9 : Int32, y9 = x6 + 1 := ⟨_, rfl⟩
  have k := k y1 ey1
  obtain ⟨rv, v9, hK, hle_u, w9⟩ := hR x5 y1 u k
  refine ⟨rv, v9, hK, hle_u, ?_⟩
  intro p e s m args below meth c A H locs ls F hw hl
  obtain ⟨⟨hx, hb, hml, hown, hts⟩, hr, hlocks, hmn⟩ := id F
  refine lv_iinc (v := y1) (lv' := [(6, .int y1), (0, .ref x0), (1, .int x1), (2, .int x2), (3, .int x3), (5, .int x5)]) hx hb d_M_asked_99 hl (k := 5) rfl (by subst ey1; rfl) (by decide) rfl (fun ls hl => ?_)
  refine lv_goto (tgt := 64) hx hb d_M_asked_102 (by decide) ?_
  exact w9 p e s m args below meth c A H locs ls F hw (lv_sub hl [1, 2, 3, 4, 5, 0] rfl)
set_option maxRecDepth 100000 in
set_option maxHeartbeats 4000000 in
theorem t_M_asked_L64 (l : Launch) (Z : XZ) (u0 : PS) {Kv : Option Value → PS → Prop} {E88 : Int32 → PS → Prop} {E105 : PS → Prop} (x0 : Nat) (x1 : Int32) (x2 : Int32) (x3 : Int32) (hE88 : ∀ (y6 : Int32) (v : PS), E88 y6 v → XN l Z i_M_asked u0 Kv v 88 [(0, .ref x0), (6, .int y6)] []) (hE105 : ∀ (v : PS), E105 v → XN l Z i_M_asked u0 Kv v 105 [] []) : ∀ (n : Nat) (x5 : Int32) (x6 : Int32) (u : PS), p_M_asked_L64 x0 x1 x2 x3 E88 E105 n x5 x6 u → XN l Z i_M_asked u0 Kv u 64 [(0, .ref x0), (1, .int x1), (2, .int x2), (3, .int x3), (5, .int x5), (6, .int x6)] [] := by
  intro n
  induction n with
  | zero => intro x5 x6 u k; exact False.elim k
  | succ n ih =>
    intro x5 x6 u k
    rw [p_M_asked_L64] at k
    by_cases hc1 : 10 ≤ x6
    · have k := k.1 hc1
      obtain ⟨rv, v9, hK, hle_u, w9⟩ := hE105 u k
      refine ⟨rv, v9, hK, hle_u, ?_⟩
      intro p e s m args below meth c A H locs ls F hw hl
      obtain ⟨⟨hx, hb, hml, hown, hts⟩, hr, hlocks, hmn⟩ := id F
      refine lv_iload hx hb d_M_asked_64 (lv_at hl 5 rfl) ?_
      refine lv_bipush (v := 10) hx hb d_M_asked_66 (by decide) ?_
      refine lv_icmp_ge (tgt := 105) hx hb d_M_asked_68 (by decide) (fun _ => ?_) (fun c9 => absurd hc1 c9)
      exact w9 p e s m args below meth c A H locs ls F hw (lv_sub hl [] rfl)
    · have k := k.2 hc1
      obtain ⟨h3, k⟩ := k
      obtain ⟨_, u_21, ⟨r_22, rfl, k⟩, hM2⟩ := c_M_isAsked l Z x0 x1 x2 x6 u _ k
      by_cases hc4 : r_22 = 0
      · have k := k.1 hc4
        obtain ⟨rv, v9, hK, hle_u_21, w9⟩ := t_M_asked_J99 l Z u0 x0 x1 x2 x3 x5 x6 u_21 ih hE88 hE105 k
        have hle_u : x_le u v9 := (hM2.1).tr hle_u_21
        refine ⟨rv, v9, hK, hle_u, ?_⟩
        intro p e s m args below meth c A H locs ls F hw hl
        obtain ⟨⟨hx, hb, hml, hown, hts⟩, hr, hlocks, hmn⟩ := id F
        refine lv_iload hx hb d_M_asked_64 (lv_at hl 5 rfl) ?_
        refine lv_bipush (v := 10) hx hb d_M_asked_66 (by decide) ?_
        refine lv_icmp_ge (tgt := 105) hx hb d_M_asked_68 (by decide) (fun c9 => absurd c9 hc1) (fun _ => ?_)
        refine lv_aload_n hx hb d_M_asked_71 rfl (lv_at hl 0 rfl) ?_
        refine lv_iload_n hx hb d_M_asked_72 rfl (lv_at hl 1 rfl) ?_
        refine lv_iload_n hx hb d_M_asked_73 rfl (lv_at hl 2 rfl) ?_
        refine lv_iload hx hb d_M_asked_74 (lv_at hl 5 rfl) ?_
        refine xr_cV (As := [.int x1, .int x2, .int x6]) (rest := []) ⟨hx, hb, hml, hown, hts⟩ hw hM2 hle_u_21 (fun _ _ => ⟨callB_of 3 hts (xgood w_1056) rfl rfl rfl (hts _ (xm w_8)) (hts _ (xm w_1053)) ⟨by decide, by decide, by decide +kernel⟩ ⟨Nat.le_of_ble_eq_true rfl, Nat.le_of_ble_eq_true rfl⟩, (hts _ (xm w_1055)), (hts _ (xm wp_49))⟩) (qc := (R_M, F_M, 14)) rfl rfl h3 rfl hl.1 rfl (Nat.le_of_ble_eq_true rfl) d_M_asked_76 (fun H locs hw => ?_)
        refine W.eq (g2 := F0 m 79 ls [.int r_22]) rfl ?_
        refine lv_if_eq (tgt := 99) hx hb d_M_asked_79 (by decide) (fun _ => ?_) (fun c9 => absurd hc4 c9)
        exact w9 p e s m args below meth c A H locs ls F hw (lv_sub hl [0, 1, 2, 3, 4, 5] rfl)
      · have k := k.2 hc4
        by_cases hc5 : x5 = x3
        · have k := k.2 hc5
          obtain ⟨rv, v9, hK, hle_u_21, w9⟩ := hE88 x6 u_21 k
          have hle_u : x_le u v9 := (hM2.1).tr hle_u_21
          refine ⟨rv, v9, hK, hle_u, ?_⟩
          intro p e s m args below meth c A H locs ls F hw hl
          obtain ⟨⟨hx, hb, hml, hown, hts⟩, hr, hlocks, hmn⟩ := id F
          refine lv_iload hx hb d_M_asked_64 (lv_at hl 5 rfl) ?_
          refine lv_bipush (v := 10) hx hb d_M_asked_66 (by decide) ?_
          refine lv_icmp_ge (tgt := 105) hx hb d_M_asked_68 (by decide) (fun c9 => absurd c9 hc1) (fun _ => ?_)
          refine lv_aload_n hx hb d_M_asked_71 rfl (lv_at hl 0 rfl) ?_
          refine lv_iload_n hx hb d_M_asked_72 rfl (lv_at hl 1 rfl) ?_
          refine lv_iload_n hx hb d_M_asked_73 rfl (lv_at hl 2 rfl) ?_
          refine lv_iload hx hb d_M_asked_74 (lv_at hl 5 rfl) ?_
          refine xr_cV (As := [.int x1, .int x2, .int x6]) (rest := []) ⟨hx, hb, hml, hown, hts⟩ hw hM2 hle_u_21 (fun _ _ => ⟨callB_of 3 hts (xgood w_1056) rfl rfl rfl (hts _ (xm w_8)) (hts _ (xm w_1053)) ⟨by decide, by decide, by decide +kernel⟩ ⟨Nat.le_of_ble_eq_true rfl, Nat.le_of_ble_eq_true rfl⟩, (hts _ (xm w_1055)), (hts _ (xm wp_49))⟩) (qc := (R_M, F_M, 14)) rfl rfl h3 rfl hl.1 rfl (Nat.le_of_ble_eq_true rfl) d_M_asked_76 (fun H locs hw => ?_)
          refine W.eq (g2 := F0 m 79 ls [.int r_22]) rfl ?_
          refine lv_if_eq (tgt := 99) hx hb d_M_asked_79 (by decide) (fun c9 => absurd c9 hc4) (fun _ => ?_)
          refine lv_iload hx hb d_M_asked_82 (lv_at hl 4 rfl) ?_
          refine lv_iload_n hx hb d_M_asked_84 rfl (lv_at hl 3 rfl) ?_
          refine lv_icmp_ne (tgt := 96) hx hb d_M_asked_85 (by decide) (fun c9 => absurd hc5 c9) (fun _ => ?_)
          exact w9 p e s m args below meth c A H locs ls F hw (lv_sub hl [0, 5] rfl)
        · have k := k.1 hc5
          obtain ⟨y6, ey6⟩ : ∃ y9 : Int32, y9 = x5 + 1 := ⟨_, rfl⟩
          have k := k y6 ey6
          obtain ⟨rv, v9, hK, hle_u_21, w9⟩ := t_M_asked_J99 l Z u0 x0 x1 x2 x3 y6 x6 u_21 ih hE88 hE105 k
          have hle_u : x_le u v9 := (hM2.1).tr hle_u_21
          refine ⟨rv, v9, hK, hle_u, ?_⟩
          intro p e s m args below meth c A H locs ls F hw hl
          obtain ⟨⟨hx, hb, hml, hown, hts⟩, hr, hlocks, hmn⟩ := id F
          refine lv_iload hx hb d_M_asked_64 (lv_at hl 5 rfl) ?_
          refine lv_bipush (v := 10) hx hb d_M_asked_66 (by decide) ?_
          refine lv_icmp_ge (tgt := 105) hx hb d_M_asked_68 (by decide) (fun c9 => absurd c9 hc1) (fun _ => ?_)
          refine lv_aload_n hx hb d_M_asked_71 rfl (lv_at hl 0 rfl) ?_
          refine lv_iload_n hx hb d_M_asked_72 rfl (lv_at hl 1 rfl) ?_
          refine lv_iload_n hx hb d_M_asked_73 rfl (lv_at hl 2 rfl) ?_
          refine lv_iload hx hb d_M_asked_74 (lv_at hl 5 rfl) ?_
          refine xr_cV (As := [.int x1, .int x2, .int x6]) (rest := []) ⟨hx, hb, hml, hown, hts⟩ hw hM2 hle_u_21 (fun _ _ => ⟨callB_of 3 hts (xgood w_1056) rfl rfl rfl (hts _ (xm w_8)) (hts _ (xm w_1053)) ⟨by decide, by decide, by decide +kernel⟩ ⟨Nat.le_of_ble_eq_true rfl, Nat.le_of_ble_eq_true rfl⟩, (hts _ (xm w_1055)), (hts _ (xm wp_49))⟩) (qc := (R_M, F_M, 14)) rfl rfl h3 rfl hl.1 rfl (Nat.le_of_ble_eq_true rfl) d_M_asked_76 (fun H locs hw => ?_)
          refine W.eq (g2 := F0 m 79 ls [.int r_22]) rfl ?_
          refine lv_if_eq (tgt := 99) hx hb d_M_asked_79 (by decide) (fun c9 => absurd c9 hc4) (fun _ => ?_)
          refine lv_iload hx hb d_M_asked_82 (lv_at hl 4 rfl) ?_
          refine lv_iload_n hx hb d_M_asked_84 rfl (lv_at hl 3 rfl) ?_
          refine lv_icmp_ne (tgt := 96) hx hb d_M_asked_85 (by decide) (fun _ => ?_) (fun c9 => absurd c9 hc5)
          refine lv_iinc (v := y6) (lv' := [(5, .int y6), (0, .ref x0), (1, .int x1), (2, .int x2), (3, .int x3), (6, .int x6)]) hx hb d_M_asked_96 hl (k := 4) rfl (by subst ey6; rfl) (by decide) rfl (fun ls hl => ?_)
          exact w9 p e s m args below meth c A H locs ls F hw (lv_sub hl [1, 2, 3, 4, 0, 5] rfl)
set_option maxRecDepth 100000 in
set_option maxHeartbeats 4000000 in
theorem t_M_asked_J88 (l : Launch) (Z : XZ) (u0 : PS) {K : Int32 → PS → Prop} (x0 : Nat) (x6 : Int32) (u : PS) (k : (p_M_asked_J88 K x0 x6 u)) : XN l Z i_M_asked u0 (kI K) u 88 [(0, .ref x0), (6, .int x6)] [] := by
  unfold p_M_asked_J88 at k
  obtain ⟨z_23, h1, k⟩ := k
  obtain ⟨z_24, h2, k⟩ := k
  have hle_u : x_le u u := x_le.rf u
  refine ⟨some (.int z_24), u, ⟨z_24, rfl, k⟩, hle_u, ?_⟩
  intro p e s m args below meth c A H locs ls F hw hl
  obtain ⟨⟨hx, hb, hml, hown, hts⟩, hr, hlocks, hmn⟩ := id F
  refine lv_aload_n hx hb d_M_asked_88 rfl (lv_at hl 0 rfl) ?_
  refine xr_get hx hb hts (xmu uws_M) hown hw h1 rfl (by decide) (hts _ (xm w_871)) (fun _ h9 => h9) d_M_asked_89 ?_
  refine lv_iload hx hb d_M_asked_92 (lv_at hl 1 rfl) ?_
  refine xr_iald hx hb hw h2 d_M_asked_94 ?_
  exact xr_iret F rfl hw d_M_asked_95
set_option maxRecDepth 100000 in
set_option maxHeartbeats 4000000 in
theorem t_M_asked_J50 (l : Launch) (Z : XZ) (u0 : PS) {K : Int32 → PS → Prop} (x0 : Nat) (x1 : Int32) (x2 : Int32) (x3 : Int32) (s0 : Nat) (s1 : Int32) (s2 : Int32) (u : PS) (k : (p_M_asked_J50 K x0 x1 x2 x3 s0 s1 s2 u)) : XN l Z i_M_asked u0 (kI K) u 50 [(0, .ref x0), (1, .int x1), (2, .int x2), (3, .int x3)] [.int s2, .int s1, .ref s0] := by
  unfold p_M_asked_J50 at k
  obtain ⟨h2, k⟩ := k
  obtain ⟨_, u_19, ⟨r_20, rfl, k⟩, hM1⟩ := c_M_refuse l Z s0 s1 s2 u _ k
  by_cases hc3 : r_20 = 0
  · have k := k.1 hc3
    obtain ⟨n4, k⟩ := k
    have hx7 : ∀ (y6_5 : Int32) (v6 : PS), (p_M_asked_J88 K x0 y6_5 v6) → XN l Z i_M_asked u0 (kI K) v6 88 [(0, .ref x0), (6, .int y6_5)] [] := by
      intro y6_5 v6 k
      obtain ⟨rv, v9, hK, hle_v6, w9⟩ := t_M_asked_J88 l Z u0 x0 y6_5 v6 k
      refine ⟨rv, v9, hK, hle_v6, ?_⟩
      intro p e s m args below meth c A H locs ls F hw hl
      obtain ⟨⟨hx, hb, hml, hown, hts⟩, hr, hlocks, hmn⟩ := id F
      exact w9 p e s m args below meth c A H locs ls F hw (lv_sub hl [0, 1] rfl)
    have hx9 : ∀ (v8 : PS), (K (-1 : Int32) v8) → XN l Z i_M_asked u0 (kI K) v8 105 [] [] := by
      intro v8 k
      have hle_v8 : x_le v8 v8 := x_le.rf v8
      refine ⟨some (.int (-1)), v8, ⟨(-1 : Int32), rfl, k⟩, hle_v8, ?_⟩
      intro p e s m args below meth c A H locs ls F hw hl
      obtain ⟨⟨hx, hb, hml, hown, hts⟩, hr, hlocks, hmn⟩ := id F
      refine lv_iconst (v := (-1)) hx hb d_M_asked_105 (by decide) ?_
      exact xr_iret F rfl hw d_M_asked_106
    obtain ⟨rv, v9, hK, hle_u_19, w9⟩ := t_M_asked_L64 l Z u0 x0 x1 x2 x3 hx7 hx9 n4 (0 : Int32) (0 : Int32) u_19 k
    have hle_u : x_le u v9 := (hM1.1).tr hle_u_19
    refine ⟨rv, v9, hK, hle_u, ?_⟩
    intro p e s m args below meth c A H locs ls F hw hl
    obtain ⟨⟨hx, hb, hml, hown, hts⟩, hr, hlocks, hmn⟩ := id F
    refine xr_cV (As := [.int s1, .int s2]) (rest := []) ⟨hx, hb, hml, hown, hts⟩ hw hM1 hle_u_19 (fun _ _ => ⟨callB_of 2 hts (xgood w_929) rfl rfl rfl (hts _ (xm w_8)) (hts _ (xm w_926)) ⟨by decide, by decide, by decide +kernel⟩ ⟨Nat.le_of_ble_eq_true rfl, Nat.le_of_ble_eq_true rfl⟩, (hts _ (xm w_928)), (hts _ (xm wp_38))⟩) (qc := (R_M, F_M, 14)) rfl rfl h2 rfl hl.1 rfl (Nat.le_of_ble_eq_true rfl) d_M_asked_50 (fun H locs hw => ?_)
    refine W.eq (g2 := F0 m 53 ls [.int r_20]) rfl ?_
    refine lv_if_eq (tgt := 58) hx hb d_M_asked_53 (by decide) (fun _ => ?_) (fun c9 => absurd hc3 c9)
    refine lv_iconst (v := 0) hx hb d_M_asked_58 (by decide) ?_
    refine lv_istore (lv' := [(5, .int 0), (0, .ref x0), (1, .int x1), (2, .int x2), (3, .int x3)]) hx hb d_M_asked_59 hl (by decide) rfl (fun ls hl => ?_)
    refine lv_iconst (v := 0) hx hb d_M_asked_61 (by decide) ?_
    refine lv_istore (lv' := [(6, .int 0), (5, .int 0), (0, .ref x0), (1, .int x1), (2, .int x2), (3, .int x3)]) hx hb d_M_asked_62 hl (by decide) rfl (fun ls hl => ?_)
    exact w9 p e s m args below meth c A H locs ls F hw (lv_sub hl [2, 3, 4, 5, 1, 0] rfl)
  · have k := k.2 hc3
    have hle_u_19 : x_le u_19 u_19 := x_le.rf u_19
    have hle_u : x_le u u_19 := (hM1.1).tr hle_u_19
    refine ⟨some (.int 0), u_19, ⟨(0 : Int32), rfl, k⟩, hle_u, ?_⟩
    intro p e s m args below meth c A H locs ls F hw hl
    obtain ⟨⟨hx, hb, hml, hown, hts⟩, hr, hlocks, hmn⟩ := id F
    refine xr_cV (As := [.int s1, .int s2]) (rest := []) ⟨hx, hb, hml, hown, hts⟩ hw hM1 hle_u_19 (fun _ _ => ⟨callB_of 2 hts (xgood w_929) rfl rfl rfl (hts _ (xm w_8)) (hts _ (xm w_926)) ⟨by decide, by decide, by decide +kernel⟩ ⟨Nat.le_of_ble_eq_true rfl, Nat.le_of_ble_eq_true rfl⟩, (hts _ (xm w_928)), (hts _ (xm wp_38))⟩) (qc := (R_M, F_M, 14)) rfl rfl h2 rfl hl.1 rfl (Nat.le_of_ble_eq_true rfl) d_M_asked_50 (fun H locs hw => ?_)
    refine W.eq (g2 := F0 m 53 ls [.int r_20]) rfl ?_
    refine lv_if_eq (tgt := 58) hx hb d_M_asked_53 (by decide) (fun c9 => absurd c9 hc3) (fun _ => ?_)
    refine lv_iconst (v := 0) hx hb d_M_asked_56 (by decide) ?_
    exact xr_iret F rfl hw d_M_asked_57
set_option maxRecDepth 100000 in
set_option maxHeartbeats 4000000 in
theorem t_M_asked_J49 (l : Launch) (Z : XZ) (u0 : PS) {K : Int32 → PS → Prop} (x0 : Nat) (x1 : Int32) (x2 : Int32) (x3 : Int32) (s0 : Nat) (s1 : Int32) (u : PS) (k : (p_M_asked_J49 K x0 x1 x2 x3 s0 s1 u)) : XN l Z i_M_asked u0 (kI K) u 49 [(0, .ref x0), (1, .int x1), (2, .int x2), (3, .int x3)] [.int s1, .ref s0] := by
  unfold p_M_asked_J49 at k
  obtain ⟨rv, v9, hK, hle_u, w9⟩ := t_M_asked_J50 l Z u0 x0 x1 x2 x3 s0 s1 (0 : Int32) u k
  refine ⟨rv, v9, hK, hle_u, ?_⟩
  intro p e s m args below meth c A H locs ls F hw hl
  obtain ⟨⟨hx, hb, hml, hown, hts⟩, hr, hlocks, hmn⟩ := id F
  refine lv_iconst (v := 0) hx hb d_M_asked_49 (by decide) ?_
  exact w9 p e s m args below meth c A H locs ls F hw (lv_sub hl [0, 1, 2, 3] rfl)
set_option maxRecDepth 100000 in
set_option maxHeartbeats 4000000 in
theorem t_M_asked_J29 (l : Launch) (Z : XZ) (u0 : PS) {K : Int32 → PS → Prop} (x0 : Nat) (x1 : Int32) (x2 : Int32) (x3 : Int32) (x4 : Int32) (s0 : Nat) (s1 : Int32) (u : PS) (k : (p_M_asked_J29 K x0 x1 x2 x3 x4 s0 s1 u)) : XN l Z i_M_asked u0 (kI K) u 29 [(0, .ref x0), (1, .int x1), (2, .int x2), (3, .int x3), (4, .int x4)] [.int s1, .ref s0] := by
  unfold p_M_asked_J29 at k
  by_cases hc1 : x4 = 0
  · have k := k.1 hc1
    obtain ⟨rv, v9, hK, hle_u, w9⟩ := t_M_asked_J49 l Z u0 x0 x1 x2 x3 s0 s1 u k
    refine ⟨rv, v9, hK, hle_u, ?_⟩
    intro p e s m args below meth c A H locs ls F hw hl
    obtain ⟨⟨hx, hb, hml, hown, hts⟩, hr, hlocks, hmn⟩ := id F
    refine lv_iload hx hb d_M_asked_29 (lv_at hl 4 rfl) ?_
    refine lv_if_eq (tgt := 49) hx hb d_M_asked_31 (by decide) (fun _ => ?_) (fun c9 => absurd hc1 c9)
    exact w9 p e s m args below meth c A H locs ls F hw (lv_sub hl [0, 1, 2, 3] rfl)
  · have k := k.2 hc1
    obtain ⟨_, u_25, ⟨r_26, rfl, k⟩, hM2⟩ := c_M_in l Z x2 (0 : Int32) (1023 : Int32) u _ k
    by_cases hc3 : r_26 = 0
    · have k := k.2 hc3
      obtain ⟨rv, v9, hK, hle_u_25, w9⟩ := t_M_asked_J50 l Z u0 x0 x1 x2 x3 s0 s1 (1 : Int32) u_25 k
      have hle_u : x_le u v9 := (hM2.1).tr hle_u_25
      refine ⟨rv, v9, hK, hle_u, ?_⟩
      intro p e s m args below meth c A H locs ls F hw hl
      obtain ⟨⟨hx, hb, hml, hown, hts⟩, hr, hlocks, hmn⟩ := id F
      refine lv_iload hx hb d_M_asked_29 (lv_at hl 4 rfl) ?_
      refine lv_if_eq (tgt := 49) hx hb d_M_asked_31 (by decide) (fun c9 => absurd c9 hc1) (fun _ => ?_)
      refine lv_iload_n hx hb d_M_asked_34 rfl (lv_at hl 2 rfl) ?_
      refine lv_iconst (v := 0) hx hb d_M_asked_35 (by decide) ?_
      refine lv_sipush (v := 1023) hx hb d_M_asked_36 (by decide) ?_
      refine xr_cS (As := [.int x2, .int 0, .int 1023]) (rest := [.int s1, .ref s0]) ⟨hx, hb, hml, hown, hts⟩ hw hM2 hle_u_25 (fun _ _ => ⟨callB_of 3 hts (xgood w_925) rfl rfl rfl (hts _ (xm w_8)) (hts _ (xm w_923)) ⟨by decide, by decide, by decide +kernel⟩ ⟨Nat.le_of_ble_eq_true rfl, Nat.le_of_ble_eq_true rfl⟩, (hts _ (xm w_924))⟩) rfl hl.1 rfl (Nat.le_of_ble_eq_true rfl) d_M_asked_39 (fun H locs hw => ?_)
      refine W.eq (g2 := F0 m 42 ls [.int r_26, .int s1, .ref s0]) rfl ?_
      refine lv_if_ne (tgt := 49) hx hb d_M_asked_42 (by decide) (fun c9 => absurd hc3 c9) (fun _ => ?_)
      refine lv_iconst (v := 1) hx hb d_M_asked_45 (by decide) ?_
      refine lv_goto (tgt := 50) hx hb d_M_asked_46 (by decide) ?_
      exact w9 p e s m args below meth c A H locs ls F hw (lv_sub hl [0, 1, 2, 3] rfl)
    · have k := k.1 hc3
      obtain ⟨rv, v9, hK, hle_u_25, w9⟩ := t_M_asked_J49 l Z u0 x0 x1 x2 x3 s0 s1 u_25 k
      have hle_u : x_le u v9 := (hM2.1).tr hle_u_25
      refine ⟨rv, v9, hK, hle_u, ?_⟩
      intro p e s m args below meth c A H locs ls F hw hl
      obtain ⟨⟨hx, hb, hml, hown, hts⟩, hr, hlocks, hmn⟩ := id F
      refine lv_iload hx hb d_M_asked_29 (lv_at hl 4 rfl) ?_
      refine lv_if_eq (tgt := 49) hx hb d_M_asked_31 (by decide) (fun c9 => absurd c9 hc1) (fun _ => ?_)
      refine lv_iload_n hx hb d_M_asked_34 rfl (lv_at hl 2 rfl) ?_
      refine lv_iconst (v := 0) hx hb d_M_asked_35 (by decide) ?_
      refine lv_sipush (v := 1023) hx hb d_M_asked_36 (by decide) ?_
      refine xr_cS (As := [.int x2, .int 0, .int 1023]) (rest := [.int s1, .ref s0]) ⟨hx, hb, hml, hown, hts⟩ hw hM2 hle_u_25 (fun _ _ => ⟨callB_of 3 hts (xgood w_925) rfl rfl rfl (hts _ (xm w_8)) (hts _ (xm w_923)) ⟨by decide, by decide, by decide +kernel⟩ ⟨Nat.le_of_ble_eq_true rfl, Nat.le_of_ble_eq_true rfl⟩, (hts _ (xm w_924))⟩) rfl hl.1 rfl (Nat.le_of_ble_eq_true rfl) d_M_asked_39 (fun H locs hw => ?_)
      refine W.eq (g2 := F0 m 42 ls [.int r_26, .int s1, .ref s0]) rfl ?_
      refine lv_if_ne (tgt := 49) hx hb d_M_asked_42 (by decide) (fun _ => ?_) (fun c9 => absurd c9 hc3)
      exact w9 p e s m args below meth c A H locs ls F hw (lv_sub hl [0, 1, 2, 3] rfl)
set_option maxRecDepth 100000 in
set_option maxHeartbeats 4000000 in
theorem t_M_asked_J16 (l : Launch) (Z : XZ) (u0 : PS) {K : Int32 → PS → Prop} (x0 : Nat) (x1 : Int32) (x2 : Int32) (x3 : Int32) (s0 : Int32) (u : PS) (k : (p_M_asked_J16 K x0 x1 x2 x3 s0 u)) : XN l Z i_M_asked u0 (kI K) u 16 [(0, .ref x0), (1, .int x1), (2, .int x2), (3, .int x3)] [.int s0] := by
  unfold p_M_asked_J16 at k
  by_cases hc1 : s0 = 0
  · have k := k.2 hc1
    obtain ⟨rv, v9, hK, hle_u, w9⟩ := t_M_asked_J29 l Z u0 x0 x1 x2 x3 s0 x0 (1 : Int32) u k
    refine ⟨rv, v9, hK, hle_u, ?_⟩
    intro p e s m args below meth c A H locs ls F hw hl
    obtain ⟨⟨hx, hb, hml, hown, hts⟩, hr, hlocks, hmn⟩ := id F
    refine lv_istore (lv' := [(4, .int s0), (0, .ref x0), (1, .int x1), (2, .int x2), (3, .int x3)]) hx hb d_M_asked_16 hl (by decide) rfl (fun ls hl => ?_)
    refine lv_aload_n hx hb d_M_asked_18 rfl (lv_at hl 1 rfl) ?_
    refine lv_iload hx hb d_M_asked_19 (lv_at hl 0 rfl) ?_
    refine lv_if_ne (tgt := 28) hx hb d_M_asked_21 (by decide) (fun c9 => absurd hc1 c9) (fun _ => ?_)
    refine lv_iconst (v := 1) hx hb d_M_asked_24 (by decide) ?_
    refine lv_goto (tgt := 29) hx hb d_M_asked_25 (by decide) ?_
    exact w9 p e s m args below meth c A H locs ls F hw (lv_sub hl [1, 2, 3, 4, 0] rfl)
  · have k := k.1 hc1
    obtain ⟨rv, v9, hK, hle_u, w9⟩ := t_M_asked_J29 l Z u0 x0 x1 x2 x3 s0 x0 (0 : Int32) u k
    refine ⟨rv, v9, hK, hle_u, ?_⟩
    intro p e s m args below meth c A H locs ls F hw hl
    obtain ⟨⟨hx, hb, hml, hown, hts⟩, hr, hlocks, hmn⟩ := id F
    refine lv_istore (lv' := [(4, .int s0), (0, .ref x0), (1, .int x1), (2, .int x2), (3, .int x3)]) hx hb d_M_asked_16 hl (by decide) rfl (fun ls hl => ?_)
    refine lv_aload_n hx hb d_M_asked_18 rfl (lv_at hl 1 rfl) ?_
    refine lv_iload hx hb d_M_asked_19 (lv_at hl 0 rfl) ?_
    refine lv_if_ne (tgt := 28) hx hb d_M_asked_21 (by decide) (fun _ => ?_) (fun c9 => absurd c9 hc1)
    refine lv_iconst (v := 0) hx hb d_M_asked_28 (by decide) ?_
    exact w9 p e s m args below meth c A H locs ls F hw (lv_sub hl [1, 2, 3, 4, 0] rfl)
set_option maxRecDepth 100000 in
set_option maxHeartbeats 4000000 in
theorem t_M_asked_J15 (l : Launch) (Z : XZ) (u0 : PS) {K : Int32 → PS → Prop} (x0 : Nat) (x1 : Int32) (x2 : Int32) (x3 : Int32) (u : PS) (k : (p_M_asked_J15 K x0 x1 x2 x3 u)) : XN l Z i_M_asked u0 (kI K) u 15 [(0, .ref x0), (1, .int x1), (2, .int x2), (3, .int x3)] [] := by
  unfold p_M_asked_J15 at k
  obtain ⟨rv, v9, hK, hle_u, w9⟩ := t_M_asked_J16 l Z u0 x0 x1 x2 x3 (0 : Int32) u k
  refine ⟨rv, v9, hK, hle_u, ?_⟩
  intro p e s m args below meth c A H locs ls F hw hl
  obtain ⟨⟨hx, hb, hml, hown, hts⟩, hr, hlocks, hmn⟩ := id F
  refine lv_iconst (v := 0) hx hb d_M_asked_15 (by decide) ?_
  exact w9 p e s m args below meth c A H locs ls F hw (lv_sub hl [0, 1, 2, 3] rfl)
set_option maxRecDepth 100000 in
set_option maxHeartbeats 4000000 in
theorem c_M_asked (l : Launch) (Z : XZ) (x0 : Nat) (x1 : Int32) (x2 : Int32) (x3 : Int32) (u : PS) (K : Int32 → PS → Prop) (k : p_M_asked x0 x1 x2 x3 u K) : ∃ (rv : Option Value) (u1 : PS), (kI K) rv u1 ∧ XMet l Z i_M_asked [.ref x0, .int x1, .int x2, .int x3] u rv u1 := by
  refine x_met (by decide) rfl (Nat.le_of_ble_eq_true rfl) ?_
  show XN l Z i_M_asked u (kI K) u 0 [(0, .ref x0), (1, .int x1), (2, .int x2), (3, .int x3)] []
  unfold p_M_asked at k
  obtain ⟨_, u_17, ⟨r_18, rfl, k⟩, hM1⟩ := c_M_isPlace l Z x1 u _ k
  by_cases hc2 : r_18 = 0
  · have k := k.1 hc2
    obtain ⟨rv, v9, hK, hle_u_17, w9⟩ := t_M_asked_J15 l Z u x0 x1 x2 x3 u_17 k
    have hle_u : x_le u v9 := (hM1.1).tr hle_u_17
    refine ⟨rv, v9, hK, hle_u, ?_⟩
    intro p e s m args below meth c A H locs ls F hw hl
    obtain ⟨⟨hx, hb, hml, hown, hts⟩, hr, hlocks, hmn⟩ := id F
    refine lv_iload_n hx hb d_M_asked_0 rfl (lv_at hl 1 rfl) ?_
    refine xr_cS (As := [.int x1]) (rest := []) ⟨hx, hb, hml, hown, hts⟩ hw hM1 hle_u_17 (fun _ _ => ⟨callB_of 1 hts (xgood w_922) rfl rfl rfl (hts _ (xm w_8)) (hts _ (xm w_920)) ⟨by decide, by decide, by decide +kernel⟩ ⟨Nat.le_of_ble_eq_true rfl, Nat.le_of_ble_eq_true rfl⟩, (hts _ (xm w_921))⟩) rfl hl.1 rfl (Nat.le_of_ble_eq_true rfl) d_M_asked_1 (fun H locs hw => ?_)
    refine W.eq (g2 := F0 m 4 ls [.int r_18]) rfl ?_
    refine lv_if_eq (tgt := 15) hx hb d_M_asked_4 (by decide) (fun _ => ?_) (fun c9 => absurd hc2 c9)
    exact w9 p e s m args below meth c A H locs ls F hw (lv_sub hl [0, 1, 2, 3] rfl)
  · have k := k.2 hc2
    by_cases hc3 : x3 < 0
    · have k := k.1 hc3
      obtain ⟨rv, v9, hK, hle_u_17, w9⟩ := t_M_asked_J15 l Z u x0 x1 x2 x3 u_17 k
      have hle_u : x_le u v9 := (hM1.1).tr hle_u_17
      refine ⟨rv, v9, hK, hle_u, ?_⟩
      intro p e s m args below meth c A H locs ls F hw hl
      obtain ⟨⟨hx, hb, hml, hown, hts⟩, hr, hlocks, hmn⟩ := id F
      refine lv_iload_n hx hb d_M_asked_0 rfl (lv_at hl 1 rfl) ?_
      refine xr_cS (As := [.int x1]) (rest := []) ⟨hx, hb, hml, hown, hts⟩ hw hM1 hle_u_17 (fun _ _ => ⟨callB_of 1 hts (xgood w_922) rfl rfl rfl (hts _ (xm w_8)) (hts _ (xm w_920)) ⟨by decide, by decide, by decide +kernel⟩ ⟨Nat.le_of_ble_eq_true rfl, Nat.le_of_ble_eq_true rfl⟩, (hts _ (xm w_921))⟩) rfl hl.1 rfl (Nat.le_of_ble_eq_true rfl) d_M_asked_1 (fun H locs hw => ?_)
      refine W.eq (g2 := F0 m 4 ls [.int r_18]) rfl ?_
      refine lv_if_eq (tgt := 15) hx hb d_M_asked_4 (by decide) (fun c9 => absurd c9 hc2) (fun _ => ?_)
      refine lv_iload_n hx hb d_M_asked_7 rfl (lv_at hl 3 rfl) ?_
      refine lv_if_lt (tgt := 15) hx hb d_M_asked_8 (by decide) (fun _ => ?_) (fun c9 => absurd hc3 c9)
      exact w9 p e s m args below meth c A H locs ls F hw (lv_sub hl [0, 1, 2, 3] rfl)
    · have k := k.2 hc3
      obtain ⟨rv, v9, hK, hle_u_17, w9⟩ := t_M_asked_J16 l Z u x0 x1 x2 x3 (1 : Int32) u_17 k
      have hle_u : x_le u v9 := (hM1.1).tr hle_u_17
      refine ⟨rv, v9, hK, hle_u, ?_⟩
      intro p e s m args below meth c A H locs ls F hw hl
      obtain ⟨⟨hx, hb, hml, hown, hts⟩, hr, hlocks, hmn⟩ := id F
      refine lv_iload_n hx hb d_M_asked_0 rfl (lv_at hl 1 rfl) ?_
      refine xr_cS (As := [.int x1]) (rest := []) ⟨hx, hb, hml, hown, hts⟩ hw hM1 hle_u_17 (fun _ _ => ⟨callB_of 1 hts (xgood w_922) rfl rfl rfl (hts _ (xm w_8)) (hts _ (xm w_920)) ⟨by decide, by decide, by decide +kernel⟩ ⟨Nat.le_of_ble_eq_true rfl, Nat.le_of_ble_eq_true rfl⟩, (hts _ (xm w_921))⟩) rfl hl.1 rfl (Nat.le_of_ble_eq_true rfl) d_M_asked_1 (fun H locs hw => ?_)
      refine W.eq (g2 := F0 m 4 ls [.int r_18]) rfl ?_
      refine lv_if_eq (tgt := 15) hx hb d_M_asked_4 (by decide) (fun c9 => absurd c9 hc2) (fun _ => ?_)
      refine lv_iload_n hx hb d_M_asked_7 rfl (lv_at hl 3 rfl) ?_
      refine lv_if_lt (tgt := 15) hx hb d_M_asked_8 (by decide) (fun c9 => absurd c9 hc3) (fun _ => ?_)
      refine lv_iconst (v := 1) hx hb d_M_asked_11 (by decide) ?_
      refine lv_goto (tgt := 16) hx hb d_M_asked_12 (by decide) ?_
      exact w9 p e s m args below meth c A H locs ls F hw (lv_sub hl [0, 1, 2, 3] rfl)
