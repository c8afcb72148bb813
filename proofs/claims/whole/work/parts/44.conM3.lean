set_option maxRecDepth 100000 in
set_option maxHeartbeats 4000000 in
theorem c_M_whole (l : Launch) (Z : XZ) (x0 : Nat) (u : PS) (K : Int32 → PS → Prop) (k : p_M_whole x0 u K) : ∃ (rv : Option Value) (u1 : PS), (kI K) rv u1 ∧ XMet l Z i_M_whole [.ref x0] u rv u1 := by
  refine x_met (by decide) rfl (Nat.le_of_ble_eq_true rfl) ?_
  show XN l Z i_M_whole u (kI K) u 0 [(0, .ref x0)] []
  unfold p_M_whole at k
  obtain ⟨h2, k⟩ := k
  obtain ⟨_, u_3, ⟨r_4, rfl, k⟩, hM1⟩ := c_M_countQuestions l Z x0 (0 : Int32) (23 : Int32) u _ k
  have hle_u_3 : x_le u_3 u_3 := x_le.rf u_3
  have hle_u : x_le u u_3 := (hM1.1).tr hle_u_3
  refine ⟨some (.int r_4), u_3, ⟨r_4, rfl, k⟩, hle_u, ?_⟩
  intro p e s m args below meth c A H locs ls F hw hl
  obtain ⟨⟨hx, hb, hml, hown, hts⟩, hr, hlocks, hmn⟩ := id F
  refine lv_aload_n hx hb d_M_whole_0 rfl (lv_at hl 0 rfl) ?_
  refine lv_iconst (v := 0) hx hb d_M_whole_1 (by decide) ?_
  refine lv_bipush (v := 23) hx hb d_M_whole_2 (by decide) ?_
  refine xr_cV (As := [.int 0, .int 23]) (rest := []) ⟨hx, hb, hml, hown, hts⟩ hw hM1 hle_u_3 (fun _ _ => ⟨callB_of 2 hts (xgood w_987) rfl rfl rfl (hts _ (xm w_8)) (hts _ (xm w_984)) ⟨by decide, by decide, by decide +kernel⟩ ⟨Nat.le_of_ble_eq_true rfl, Nat.le_of_ble_eq_true rfl⟩, (hts _ (xm w_986)), (hts _ (xm wp_43))⟩) (qc := (R_M, F_M, 14)) rfl rfl h2 rfl hl.1 rfl (Nat.le_of_ble_eq_true rfl) d_M_whole_4 (fun H locs hw => ?_)
  refine W.eq (g2 := F0 m 7 ls [.int r_4]) rfl ?_
  exact xr_iret F rfl hw d_M_whole_7
set_option maxRecDepth 100000 in
set_option maxHeartbeats 4000000 in
theorem t_M_size_J18 (l : Launch) (Z : XZ) (u0 : PS) {K : Int32 → PS → Prop} (x0 : Nat) (x1 : Int32) (s0 : Nat) (s1 : Int32) (u : PS) (k : (p_M_size_J18 K x0 x1 s0 s1 u)) : XN l Z i_M_size u0 (kI K) u 18 [(0, .ref x0), (1, .int x1)] [.int s1, .ref s0] := by
  unfold p_M_size_J18 at k
  obtain ⟨h2, k⟩ := k
  obtain ⟨_, u_9, ⟨r_10, rfl, k⟩, hM1⟩ := c_M_refuse l Z s0 s1 (0 : Int32) u _ k
  by_cases hc3 : r_10 = 0
  · have k := k.1 hc3
    by_cases hc4 : x1 = (-1)
    · have k := k.2 hc4
      obtain ⟨h6, k⟩ := k
      obtain ⟨_, u_11, ⟨r_12, rfl, k⟩, hM5⟩ := c_M_whole l Z x0 u_9 _ k
      have hle_u_11 : x_le u_11 u_11 := x_le.rf u_11
      have hle_u_9 : x_le u_9 u_11 := (hM5.1).tr hle_u_11
      have hle_u : x_le u u_11 := (hM1.1).tr hle_u_9
      refine ⟨some (.int r_12), u_11, ⟨r_12, rfl, k⟩, hle_u, ?_⟩
      intro p e s m args below meth c A H locs ls F hw hl
      obtain ⟨⟨hx, hb, hml, hown, hts⟩, hr, hlocks, hmn⟩ := id F
      refine lv_iconst (v := 0) hx hb d_M_size_18 (by decide) ?_
      refine xr_cV (As := [.int s1, .int 0]) (rest := []) ⟨hx, hb, hml, hown, hts⟩ hw hM1 hle_u_9 (fun _ _ => ⟨callB_of 2 hts (xgood w_929) rfl rfl rfl (hts _ (xm w_8)) (hts _ (xm w_926)) ⟨by decide, by decide, by decide +kernel⟩ ⟨Nat.le_of_ble_eq_true rfl, Nat.le_of_ble_eq_true rfl⟩, (hts _ (xm w_928)), (hts _ (xm wp_38))⟩) (qc := (R_M, F_M, 14)) rfl rfl h2 rfl hl.1 rfl (Nat.le_of_ble_eq_true rfl) d_M_size_19 (fun H locs hw => ?_)
      refine W.eq (g2 := F0 m 22 ls [.int r_10]) rfl ?_
      refine lv_if_eq (tgt := 27) hx hb d_M_size_22 (by decide) (fun _ => ?_) (fun c9 => absurd hc3 c9)
      refine lv_iload_n hx hb d_M_size_27 rfl (lv_at hl 1 rfl) ?_
      refine lv_iconst (v := (-1)) hx hb d_M_size_28 (by decide) ?_
      refine lv_icmp_ne (tgt := 39) hx hb d_M_size_29 (by decide) (fun c9 => absurd hc4 c9) (fun _ => ?_)
      refine lv_aload_n hx hb d_M_size_32 rfl (lv_at hl 0 rfl) ?_
      refine xr_cV (As := []) (rest := []) ⟨hx, hb, hml, hown, hts⟩ hw hM5 hle_u_11 (fun _ _ => ⟨callB_of 0 hts (xgood w_983) rfl rfl rfl (hts _ (xm w_8)) (hts _ (xm w_980)) ⟨by decide, by decide, by decide +kernel⟩ ⟨Nat.le_of_ble_eq_true rfl, Nat.le_of_ble_eq_true rfl⟩, (hts _ (xm w_982)), (hts _ (xm wp_42))⟩) (qc := (R_M, F_M, 14)) rfl rfl h6 rfl hl.1 rfl (Nat.le_of_ble_eq_true rfl) d_M_size_33 (fun H locs hw => ?_)
      refine W.eq (g2 := F0 m 36 ls [.int r_12]) rfl ?_
      refine lv_goto (tgt := 45) hx hb d_M_size_36 (by decide) ?_
      exact xr_iret F rfl hw d_M_size_45
    · have k := k.1 hc4
      obtain ⟨h8, k⟩ := k
      obtain ⟨_, u_13, ⟨r_14, rfl, k⟩, hM7⟩ := c_M_countQuestions l Z x0 x1 x1 u_9 _ k
      have hle_u_13 : x_le u_13 u_13 := x_le.rf u_13
      have hle_u_9 : x_le u_9 u_13 := (hM7.1).tr hle_u_13
      have hle_u : x_le u u_13 := (hM1.1).tr hle_u_9
      refine ⟨some (.int r_14), u_13, ⟨r_14, rfl, k⟩, hle_u, ?_⟩
      intro p e s m args below meth c A H locs ls F hw hl
      obtain ⟨⟨hx, hb, hml, hown, hts⟩, hr, hlocks, hmn⟩ := id F
      refine lv_iconst (v := 0) hx hb d_M_size_18 (by decide) ?_
      refine xr_cV (As := [.int s1, .int 0]) (rest := []) ⟨hx, hb, hml, hown, hts⟩ hw hM1 hle_u_9 (fun _ _ => ⟨callB_of 2 hts (xgood w_929) rfl rfl rfl (hts _ (xm w_8)) (hts _ (xm w_926)) ⟨by decide, by decide, by decide +kernel⟩ ⟨Nat.le_of_ble_eq_true rfl, Nat.le_of_ble_eq_true rfl⟩, (hts _ (xm w_928)), (hts _ (xm wp_38))⟩) (qc := (R_M, F_M, 14)) rfl rfl h2 rfl hl.1 rfl (Nat.le_of_ble_eq_true rfl) d_M_size_19 (fun H locs hw => ?_)
      refine W.eq (g2 := F0 m 22 ls [.int r_10]) rfl ?_
      refine lv_if_eq (tgt := 27) hx hb d_M_size_22 (by decide) (fun _ => ?_) (fun c9 => absurd hc3 c9)
      refine lv_iload_n hx hb d_M_size_27 rfl (lv_at hl 1 rfl) ?_
      refine lv_iconst (v := (-1)) hx hb d_M_size_28 (by decide) ?_
      refine lv_icmp_ne (tgt := 39) hx hb d_M_size_29 (by decide) (fun _ => ?_) (fun c9 => absurd c9 hc4)
      refine lv_aload_n hx hb d_M_size_39 rfl (lv_at hl 0 rfl) ?_
      refine lv_iload_n hx hb d_M_size_40 rfl (lv_at hl 1 rfl) ?_
      refine lv_iload_n hx hb d_M_size_41 rfl (lv_at hl 1 rfl) ?_
      refine xr_cV (As := [.int x1, .int x1]) (rest := []) ⟨hx, hb, hml, hown, hts⟩ hw hM7 hle_u_13 (fun _ _ => ⟨callB_of 2 hts (xgood w_987) rfl rfl rfl (hts _ (xm w_8)) (hts _ (xm w_984)) ⟨by decide, by decide, by decide +kernel⟩ ⟨Nat.le_of_ble_eq_true rfl, Nat.le_of_ble_eq_true rfl⟩, (hts _ (xm w_986)), (hts _ (xm wp_43))⟩) (qc := (R_M, F_M, 14)) rfl rfl h8 rfl hl.1 rfl (Nat.le_of_ble_eq_true rfl) d_M_size_42 (fun H locs hw => ?_)
      refine W.eq (g2 := F0 m 45 ls [.int r_14]) rfl ?_
      exact xr_iret F rfl hw d_M_size_45
  · have k := k.2 hc3
    have hle_u_9 : x_le u_9 u_9 := x_le.rf u_9
    have hle_u : x_le u u_9 := (hM1.1).tr hle_u_9
    refine ⟨some (.int 0), u_9, ⟨(0 : Int32), rfl, k⟩, hle_u, ?_⟩
    intro p e s m args below meth c A H locs ls F hw hl
    obtain ⟨⟨hx, hb, hml, hown, hts⟩, hr, hlocks, hmn⟩ := id F
    refine lv_iconst (v := 0) hx hb d_M_size_18 (by decide) ?_
    refine xr_cV (As := [.int s1, .int 0]) (rest := []) ⟨hx, hb, hml, hown, hts⟩ hw hM1 hle_u_9 (fun _ _ => ⟨callB_of 2 hts (xgood w_929) rfl rfl rfl (hts _ (xm w_8)) (hts _ (xm w_926)) ⟨by decide, by decide, by decide +kernel⟩ ⟨Nat.le_of_ble_eq_true rfl, Nat.le_of_ble_eq_true rfl⟩, (hts _ (xm w_928)), (hts _ (xm wp_38))⟩) (qc := (R_M, F_M, 14)) rfl rfl h2 rfl hl.1 rfl (Nat.le_of_ble_eq_true rfl) d_M_size_19 (fun H locs hw => ?_)
    refine W.eq (g2 := F0 m 22 ls [.int r_10]) rfl ?_
    refine lv_if_eq (tgt := 27) hx hb d_M_size_22 (by decide) (fun c9 => absurd c9 hc3) (fun _ => ?_)
    refine lv_iconst (v := 0) hx hb d_M_size_25 (by decide) ?_
    exact xr_iret F rfl hw d_M_size_26
set_option maxRecDepth 100000 in
set_option maxHeartbeats 4000000 in
theorem t_M_size_J17 (l : Launch) (Z : XZ) (u0 : PS) {K : Int32 → PS → Prop} (x0 : Nat) (x1 : Int32) (s0 : Nat) (u : PS) (k : (p_M_size_J17 K x0 x1 s0 u)) : XN l Z i_M_size u0 (kI K) u 17 [(0, .ref x0), (1, .int x1)] [.ref s0] := by
  unfold p_M_size_J17 at k
  obtain ⟨rv, v9, hK, hle_u, w9⟩ := t_M_size_J18 l Z u0 x0 x1 s0 (0 : Int32) u k
  refine ⟨rv, v9, hK, hle_u, ?_⟩
  intro p e s m args below meth c A H locs ls F hw hl
  obtain ⟨⟨hx, hb, hml, hown, hts⟩, hr, hlocks, hmn⟩ := id F
  refine lv_iconst (v := 0) hx hb d_M_size_17 (by decide) ?_
  exact w9 p e s m args below meth c A H locs ls F hw (lv_sub hl [0, 1] rfl)
set_option maxRecDepth 100000 in
set_option maxHeartbeats 4000000 in
theorem c_M_size (l : Launch) (Z : XZ) (x0 : Nat) (x1 : Int32) (u : PS) (K : Int32 → PS → Prop) (k : p_M_size x0 x1 u K) : ∃ (rv : Option Value) (u1 : PS), (kI K) rv u1 ∧ XMet l Z i_M_size [.ref x0, .int x1] u rv u1 := by
  refine x_met (by decide) rfl (Nat.le_of_ble_eq_true rfl) ?_
  show XN l Z i_M_size u (kI K) u 0 [(0, .ref x0), (1, .int x1)] []
  unfold p_M_size at k
  by_cases hc1 : x1 = (-1)
  · have k := k.1 hc1
    obtain ⟨rv, v9, hK, hle_u, w9⟩ := t_M_size_J17 l Z u x0 x1 x0 u k
    refine ⟨rv, v9, hK, hle_u, ?_⟩
    intro p e s m args below meth c A H locs ls F hw hl
    obtain ⟨⟨hx, hb, hml, hown, hts⟩, hr, hlocks, hmn⟩ := id F
    refine lv_aload_n hx hb d_M_size_0 rfl (lv_at hl 0 rfl) ?_
    refine lv_iload_n hx hb d_M_size_1 rfl (lv_at hl 1 rfl) ?_
    refine lv_iconst (v := (-1)) hx hb d_M_size_2 (by decide) ?_
    refine lv_icmp_eq (tgt := 17) hx hb d_M_size_3 (by decide) (fun _ => ?_) (fun c9 => absurd hc1 c9)
    exact w9 p e s m args below meth c A H locs ls F hw (lv_sub hl [0, 1] rfl)
  · have k := k.2 hc1
    obtain ⟨_, u_15, ⟨r_16, rfl, k⟩, hM2⟩ := c_M_isPlace l Z x1 u _ k
    by_cases hc3 : r_16 = 0
    · have k := k.2 hc3
      obtain ⟨rv, v9, hK, hle_u_15, w9⟩ := t_M_size_J18 l Z u x0 x1 x0 (1 : Int32) u_15 k
      have hle_u : x_le u v9 := (hM2.1).tr hle_u_15
      refine ⟨rv, v9, hK, hle_u, ?_⟩
      intro p e s m args below meth c A H locs ls F hw hl
      obtain ⟨⟨hx, hb, hml, hown, hts⟩, hr, hlocks, hmn⟩ := id F
      refine lv_aload_n hx hb d_M_size_0 rfl (lv_at hl 0 rfl) ?_
      refine lv_iload_n hx hb d_M_size_1 rfl (lv_at hl 1 rfl) ?_
      refine lv_iconst (v := (-1)) hx hb d_M_size_2 (by decide) ?_
      refine lv_icmp_eq (tgt := 17) hx hb d_M_size_3 (by decide) (fun c9 => absurd c9 hc1) (fun _ => ?_)
      refine lv_iload_n hx hb d_M_size_6 rfl (lv_at hl 1 rfl) ?_
      refine xr_cS (As := [.int x1]) (rest := [.ref x0]) ⟨hx, hb, hml, hown, hts⟩ hw hM2 hle_u_15 (fun _ _ => ⟨callB_of 1 hts (xgood w_922) rfl rfl rfl (hts _ (xm w_8)) (hts _ (xm w_920)) ⟨by decide, by decide, by decide +kernel⟩ ⟨Nat.le_of_ble_eq_true rfl, Nat.le_of_ble_eq_true rfl⟩, (hts _ (xm w_921))⟩) rfl hl.1 rfl (Nat.le_of_ble_eq_true rfl) d_M_size_7 (fun H locs hw => ?_)
      refine W.eq (g2 := F0 m 10 ls [.int r_16, .ref x0]) rfl ?_
      refine lv_if_ne (tgt := 17) hx hb d_M_size_10 (by decide) (fun c9 => absurd hc3 c9) (fun _ => ?_)
      refine lv_iconst (v := 1) hx hb d_M_size_13 (by decide) ?_
      refine lv_goto (tgt := 18) hx hb d_M_size_14 (by decide) ?_
      exact w9 p e s m args below meth c A H locs ls F hw (lv_sub hl [0, 1] rfl)
    · have k := k.1 hc3
      obtain ⟨rv, v9, hK, hle_u_15, w9⟩ := t_M_size_J17 l Z u x0 x1 x0 u_15 k
      have hle_u : x_le u v9 := (hM2.1).tr hle_u_15
      refine ⟨rv, v9, hK, hle_u, ?_⟩
      intro p e s m args below meth c A H locs ls F hw hl
      obtain ⟨⟨hx, hb, hml, hown, hts⟩, hr, hlocks, hmn⟩ := id F
      refine lv_aload_n hx hb d_M_size_0 rfl (lv_at hl 0 rfl) ?_
      refine lv_iload_n hx hb d_M_size_1 rfl (lv_at hl 1 rfl) ?_
      refine lv_iconst (v := (-1)) hx hb d_M_size_2 (by decide) ?_
      refine lv_icmp_eq (tgt := 17) hx hb d_M_size_3 (by decide) (fun c9 => absurd c9 hc1) (fun _ => ?_)
      refine lv_iload_n hx hb d_M_size_6 rfl (lv_at hl 1 rfl) ?_
      refine xr_cS (As := [.int x1]) (rest := [.ref x0]) ⟨hx, hb, hml, hown, hts⟩ hw hM2 hle_u_15 (fun _ _ => ⟨callB_of 1 hts (xgood w_922) rfl rfl rfl (hts _ (xm w_8)) (hts _ (xm w_920)) ⟨by decide, by decide, by decide +kernel⟩ ⟨Nat.le_of_ble_eq_true rfl, Nat.le_of_ble_eq_true rfl⟩, (hts _ (xm w_921))⟩) rfl hl.1 rfl (Nat.le_of_ble_eq_true rfl) d_M_size_7 (fun H locs hw => ?_)
      refine W.eq (g2 := F0 m 10 ls [.int r_16, .ref x0]) rfl ?_
      refine lv_if_ne (tgt := 17) hx hb d_M_size_10 (by decide) (fun _ => ?_) (fun c9 => absurd c9 hc3)
      exact w9 p e s m args below meth c A H locs ls F hw (lv_sub hl [0, 1] rfl)
set_option maxRecDepth 100000 in
set_option maxHeartbeats 4000000 in
theorem t_M_questions_J13 (l : Launch) (Z : XZ) (u0 : PS) {K : Int32 → PS → Prop} (x0 : Nat) (x1 : Int32) (s0 : Nat) (s1 : Int32) (u : PS) (k : (p_M_questions_J13 K x0 x1 s0 s1 u)) : XN l Z i_M_questions u0 (kI K) u 13 [(0, .ref x0), (1, .int x1)] [.int s1, .ref s0] := by
  unfold p_M_questions_J13 at k
  obtain ⟨h2, k⟩ := k
  obtain ⟨_, u_11, ⟨r_12, rfl, k⟩, hM1⟩ := c_M_refuse l Z s0 s1 (0 : Int32) u _ k
  by_cases hc3 : r_12 = 0
  · have k := k.1 hc3
    obtain ⟨h5, k⟩ := k
    obtain ⟨_, u_13, ⟨r_14, rfl, k⟩, hM4⟩ := c_M_whole l Z x0 u_11 _ k
    obtain ⟨z_15, h6, k⟩ := k
    obtain ⟨z_16, h7, k⟩ := k
    have hle_u_13 : x_le u_13 u_13 := x_le.rf u_13
    have hle_u_11 : x_le u_11 u_13 := (hM4.1).tr hle_u_13
    have hle_u : x_le u u_13 := (hM1.1).tr hle_u_11
    refine ⟨some (.int z_16), u_13, ⟨z_16, rfl, k⟩, hle_u, ?_⟩
    intro p e s m args below meth c A H locs ls F hw hl
    obtain ⟨⟨hx, hb, hml, hown, hts⟩, hr, hlocks, hmn⟩ := id F
    refine lv_iconst (v := 0) hx hb d_M_questions_13 (by decide) ?_
    refine xr_cV (As := [.int s1, .int 0]) (rest := []) ⟨hx, hb, hml, hown, hts⟩ hw hM1 hle_u_11 (fun _ _ => ⟨callB_of 2 hts (xgood w_929) rfl rfl rfl (hts _ (xm w_8)) (hts _ (xm w_926)) ⟨by decide, by decide, by decide +kernel⟩ ⟨Nat.le_of_ble_eq_true rfl, Nat.le_of_ble_eq_true rfl⟩, (hts _ (xm w_928)), (hts _ (xm wp_38))⟩) (qc := (R_M, F_M, 14)) rfl rfl h2 rfl hl.1 rfl (Nat.le_of_ble_eq_true rfl) d_M_questions_14 (fun H locs hw => ?_)
    refine W.eq (g2 := F0 m 17 ls [.int r_12]) rfl ?_
    refine lv_if_eq (tgt := 22) hx hb d_M_questions_17 (by decide) (fun _ => ?_) (fun c9 => absurd hc3 c9)
    refine lv_aload_n hx hb d_M_questions_22 rfl (lv_at hl 0 rfl) ?_
    refine xr_cV (As := []) (rest := []) ⟨hx, hb, hml, hown, hts⟩ hw hM4 hle_u_13 (fun _ _ => ⟨callB_of 0 hts (xgood w_983) rfl rfl rfl (hts _ (xm w_8)) (hts _ (xm w_980)) ⟨by decide, by decide, by decide +kernel⟩ ⟨Nat.le_of_ble_eq_true rfl, Nat.le_of_ble_eq_true rfl⟩, (hts _ (xm w_982)), (hts _ (xm wp_42))⟩) (qc := (R_M, F_M, 14)) rfl rfl h5 rfl hl.1 rfl (Nat.le_of_ble_eq_true rfl) d_M_questions_23 (fun H locs hw => ?_)
    refine W.eq (g2 := F0 m 26 ls [.int r_14]) rfl ?_
    refine lv_pop hx hb d_M_questions_26 rfl ?_
    refine lv_aload_n hx hb d_M_questions_27 rfl (lv_at hl 0 rfl) ?_
    refine xr_get hx hb hts (xmu uws_M) hown hw h6 rfl (by decide) (hts _ (xm w_879)) (fun _ h9 => h9) d_M_questions_28 ?_
    refine lv_iload_n hx hb d_M_questions_31 rfl (lv_at hl 1 rfl) ?_
    refine xr_iald hx hb hw h7 d_M_questions_32 ?_
    exact xr_iret F rfl hw d_M_questions_33
  · have k := k.2 hc3
    have hle_u_11 : x_le u_11 u_11 := x_le.rf u_11
    have hle_u : x_le u u_11 := (hM1.1).tr hle_u_11
    refine ⟨some (.int 0), u_11, ⟨(0 : Int32), rfl, k⟩, hle_u, ?_⟩
    intro p e s m args below meth c A H locs ls F hw hl
    obtain ⟨⟨hx, hb, hml, hown, hts⟩, hr, hlocks, hmn⟩ := id F
    refine lv_iconst (v := 0) hx hb d_M_questions_13 (by decide) ?_
    refine xr_cV (As := [.int s1, .int 0]) (rest := []) ⟨hx, hb, hml, hown, hts⟩ hw hM1 hle_u_11 (fun _ _ => ⟨callB_of 2 hts (xgood w_929) rfl rfl rfl (hts _ (xm w_8)) (hts _ (xm w_926)) ⟨by decide, by decide, by decide +kernel⟩ ⟨Nat.le_of_ble_eq_true rfl, Nat.le_of_ble_eq_true rfl⟩, (hts _ (xm w_928)), (hts _ (xm wp_38))⟩) (qc := (R_M, F_M, 14)) rfl rfl h2 rfl hl.1 rfl (Nat.le_of_ble_eq_true rfl) d_M_questions_14 (fun H locs hw => ?_)
    refine W.eq (g2 := F0 m 17 ls [.int r_12]) rfl ?_
    refine lv_if_eq (tgt := 22) hx hb d_M_questions_17 (by decide) (fun c9 => absurd c9 hc3) (fun _ => ?_)
    refine lv_iconst (v := 0) hx hb d_M_questions_20 (by decide) ?_
    exact xr_iret F rfl hw d_M_questions_21
set_option maxRecDepth 100000 in
set_option maxHeartbeats 4000000 in
theorem c_M_questions (l : Launch) (Z : XZ) (x0 : Nat) (x1 : Int32) (u : PS) (K : Int32 → PS → Prop) (k : p_M_questions x0 x1 u K) : ∃ (rv : Option Value) (u1 : PS), (kI K) rv u1 ∧ XMet l Z i_M_questions [.ref x0, .int x1] u rv u1 := by
  refine x_met (by decide) rfl (Nat.le_of_ble_eq_true rfl) ?_
  show XN l Z i_M_questions u (kI K) u 0 [(0, .ref x0), (1, .int x1)] []
  unfold p_M_questions at k
  obtain ⟨_, u_9, ⟨r_10, rfl, k⟩, hM1⟩ := c_M_isInput l Z x1 u _ k
  by_cases hc2 : r_10 = 0
  · have k := k.2 hc2
    obtain ⟨rv, v9, hK, hle_u_9, w9⟩ := t_M_questions_J13 l Z u x0 x1 x0 (1 : Int32) u_9 k
    have hle_u : x_le u v9 := (hM1.1).tr hle_u_9
    refine ⟨rv, v9, hK, hle_u, ?_⟩
    intro p e s m args below meth c A H locs ls F hw hl
    obtain ⟨⟨hx, hb, hml, hown, hts⟩, hr, hlocks, hmn⟩ := id F
    refine lv_aload_n hx hb d_M_questions_0 rfl (lv_at hl 0 rfl) ?_
    refine lv_iload_n hx hb d_M_questions_1 rfl (lv_at hl 1 rfl) ?_
    refine xr_cS (As := [.int x1]) (rest := [.ref x0]) ⟨hx, hb, hml, hown, hts⟩ hw hM1 hle_u_9 (fun _ _ => ⟨callB_of 1 hts (xgood w_936) rfl rfl rfl (hts _ (xm w_8)) (hts _ (xm w_934)) ⟨by decide, by decide, by decide +kernel⟩ ⟨Nat.le_of_ble_eq_true rfl, Nat.le_of_ble_eq_true rfl⟩, (hts _ (xm w_935))⟩) rfl hl.1 rfl (Nat.le_of_ble_eq_true rfl) d_M_questions_2 (fun H locs hw => ?_)
    refine W.eq (g2 := F0 m 5 ls [.int r_10, .ref x0]) rfl ?_
    refine lv_if_ne (tgt := 12) hx hb d_M_questions_5 (by decide) (fun c9 => absurd hc2 c9) (fun _ => ?_)
    refine lv_iconst (v := 1) hx hb d_M_questions_8 (by decide) ?_
    refine lv_goto (tgt := 13) hx hb d_M_questions_9 (by decide) ?_
    exact w9 p e s m args below meth c A H locs ls F hw (lv_sub hl [0, 1] rfl)
  · have k := k.1 hc2
    obtain ⟨rv, v9, hK, hle_u_9, w9⟩ := t_M_questions_J13 l Z u x0 x1 x0 (0 : Int32) u_9 k
    have hle_u : x_le u v9 := (hM1.1).tr hle_u_9
    refine ⟨rv, v9, hK, hle_u, ?_⟩
    intro p e s m args below meth c A H locs ls F hw hl
    obtain ⟨⟨hx, hb, hml, hown, hts⟩, hr, hlocks, hmn⟩ := id F
    refine lv_aload_n hx hb d_M_questions_0 rfl (lv_at hl 0 rfl) ?_
    refine lv_iload_n hx hb d_M_questions_1 rfl (lv_at hl 1 rfl) ?_
    refine xr_cS (As := [.int x1]) (rest := [.ref x0]) ⟨hx, hb, hml, hown, hts⟩ hw hM1 hle_u_9 (fun _ _ => ⟨callB_of 1 hts (xgood w_936) rfl rfl rfl (hts _ (xm w_8)) (hts _ (xm w_934)) ⟨by decide, by decide, by decide +kernel⟩ ⟨Nat.le_of_ble_eq_true rfl, Nat.le_of_ble_eq_true rfl⟩, (hts _ (xm w_935))⟩) rfl hl.1 rfl (Nat.le_of_ble_eq_true rfl) d_M_questions_2 (fun H locs hw => ?_)
    refine W.eq (g2 := F0 m 5 ls [.int r_10, .ref x0]) rfl ?_
    refine lv_if_ne (tgt := 12) hx hb d_M_questions_5 (by decide) (fun _ => ?_) (fun c9 => absurd c9 hc2)
    refine lv_iconst (v := 0) hx hb d_M_questions_12 (by decide) ?_
    exact w9 p e s m args below meth c A H locs ls F hw (lv_sub hl [0, 1] rfl)
set_option maxRecDepth 100000 in
set_option maxHeartbeats 4000000 in
theorem t_M_placeOf_L2 (l : Launch) (Z : XZ) (u0 : PS) {Kv : Option Value → PS → Prop} {E18 : Int32 → PS → Prop} (x0 : Nat) (x1 : Int32) (hE18 : ∀ (y2 : Int32) (v : PS), E18 y2 v → XN l Z i_M_placeOf u0 Kv v 18 [(2, .int y2)] []) : ∀ (n : Nat) (x2 : Int32) (u : PS), p_M_placeOf_L2 x0 x1 E18 n x2 u → XN l Z i_M_placeOf u0 Kv u 2 [(0, .ref x0), (1, .int x1), (2, .int x2)] [] := by
  intro n
  induction n with
  | zero => intro x2 u k; exact False.elim k
  | succ n ih =>
    intro x2 u k
    rw [p_M_placeOf_L2] at k
    obtain ⟨z_7, h1, k⟩ := k
    obtain ⟨z_8, h2, k⟩ := k
    by_cases hc3 : z_8 = x1
    · have k := k.1 hc3
      obtain ⟨rv, v9, hK, hle_u, w9⟩ := hE18 x2 u k
      refine ⟨rv, v9, hK, hle_u, ?_⟩
      intro p e s m args below meth c A H locs ls F hw hl
      obtain ⟨⟨hx, hb, hml, hown, hts⟩, hr, hlocks, hmn⟩ := id F
      refine lv_aload_n hx hb d_M_placeOf_2 rfl (lv_at hl 0 rfl) ?_
      refine xr_get hx hb hts (xmu uws_M) hown hw h1 rfl (by decide) (hts _ (xm w_871)) (fun _ h9 => h9) d_M_placeOf_3 ?_
      refine lv_iload_n hx hb d_M_placeOf_6 rfl (lv_at hl 2 rfl) ?_
      refine xr_iald hx hb hw h2 d_M_placeOf_7 ?_
      refine lv_iload_n hx hb d_M_placeOf_8 rfl (lv_at hl 1 rfl) ?_
      refine lv_icmp_eq (tgt := 18) hx hb d_M_placeOf_9 (by decide) (fun _ => ?_) (fun c9 => absurd hc3 c9)
      exact w9 p e s m args below meth c A H locs ls F hw (lv_sub hl [2] rfl)
    · have k := k.2 hc3
      obtain ⟨y4, ey4⟩ : ∃ y9 : Int32, y9 = x2 + 1 := ⟨_, rfl⟩
      have k := k y4 ey4
      obtain ⟨rv, v9, hK, hle_u, w9⟩ := ih y4 u k
      refine ⟨rv, v9, hK, hle_u, ?_⟩
      intro p e s m args below meth c A H locs ls F hw hl
      obtain ⟨⟨hx, hb, hml, hown, hts⟩, hr, hlocks, hmn⟩ := id F
      refine lv_aload_n hx hb d_M_placeOf_2 rfl (lv_at hl 0 rfl) ?_
      refine xr_get hx hb hts (xmu uws_M) hown hw h1 rfl (by decide) (hts _ (xm w_871)) (fun _ h9 => h9) d_M_placeOf_3 ?_
      refine lv_iload_n hx hb d_M_placeOf_6 rfl (lv_at hl 2 rfl) ?_
      refine xr_iald hx hb hw h2 d_M_placeOf_7 ?_
      refine lv_iload_n hx hb d_M_placeOf_8 rfl (lv_at hl 1 rfl) ?_
      refine lv_icmp_eq (tgt := 18) hx hb d_M_placeOf_9 (by decide) (fun c9 => absurd c9 hc3) (fun _ => ?_)
      refine lv_iinc (v := y4) (lv' := [(2, .int y4), (0, .ref x0), (1, .int x1)]) hx hb d_M_placeOf_12 hl (k := 2) rfl (by subst ey4; rfl) (by decide) rfl (fun ls hl => ?_)
      refine lv_goto (tgt := 2) hx hb d_M_placeOf_15 (by decide) ?_
      exact w9 p e s m args below meth c A H locs ls F hw (lv_sub hl [1, 2, 0] rfl)
set_option maxRecDepth 100000 in
set_option maxHeartbeats 4000000 in
theorem c_M_placeOf (l : Launch) (Z : XZ) (x0 : Nat) (x1 : Int32) (u : PS) (K : Int32 → PS → Prop) (k : p_M_placeOf x0 x1 u K) : ∃ (rv : Option Value) (u1 : PS), (kI K) rv u1 ∧ XMet l Z i_M_placeOf [.ref x0, .int x1] u rv u1 := by
  refine x_met (by decide) rfl (Nat.le_of_ble_eq_true rfl) ?_
  show XN l Z i_M_placeOf u (kI K) u 0 [(0, .ref x0), (1, .int x1)] []
  unfold p_M_placeOf at k
  obtain ⟨n1, k⟩ := k
  have hx4 : ∀ (y2_2 : Int32) (v3 : PS), (K y2_2 v3) → XN l Z i_M_placeOf u (kI K) v3 18 [(2, .int y2_2)] [] := by
    intro y2_2 v3 k
    have hle_v3 : x_le v3 v3 := x_le.rf v3
    refine ⟨some (.int y2_2), v3, ⟨y2_2, rfl, k⟩, hle_v3, ?_⟩
    intro p e s m args below meth c A H locs ls F hw hl
    obtain ⟨⟨hx, hb, hml, hown, hts⟩, hr, hlocks, hmn⟩ := id F
    refine lv_iload_n hx hb d_M_placeOf_18 rfl (lv_at hl 0 rfl) ?_
    exact xr_iret F rfl hw d_M_placeOf_19
  obtain ⟨rv, v9, hK, hle_u, w9⟩ := t_M_placeOf_L2 l Z u x0 x1 hx4 n1 (0 : Int32) u k
  refine ⟨rv, v9, hK, hle_u, ?_⟩
  intro p e s m args below meth c A H locs ls F hw hl
  obtain ⟨⟨hx, hb, hml, hown, hts⟩, hr, hlocks, hmn⟩ := id F
  refine lv_iconst (v := 0) hx hb d_M_placeOf_0 (by decide) ?_
  refine lv_istore_n (lv' := [(2, .int 0), (0, .ref x0), (1, .int x1)]) hx hb d_M_placeOf_1 rfl hl (by decide) rfl (fun ls hl => ?_)
  exact w9 p e s m args below meth c A H locs ls F hw (lv_sub hl [1, 2, 0] rfl)
set_option maxRecDepth 100000 in
set_option maxHeartbeats 4000000 in
theorem t_M_moveTo_L9 (l : Launch) (Z : XZ) (u0 : PS) {Kv : Option Value → PS → Prop} {E40 : PS → Prop} (x0 : Nat) (x1 : Int32) (x2 : Int32) (hE40 : ∀ (v : PS), E40 v → XN l Z i_M_moveTo u0 Kv v 40 [(0, .ref x0), (1, .int x1), (2, .int x2)] []) : ∀ (n : Nat) (x4 : Int32) (u : PS), p_M_moveTo_L9 x0 x1 x2 E40 n x4 u → XN l Z i_M_moveTo u0 Kv u 9 [(0, .ref x0), (1, .int x1), (2, .int x2), (4, .int x4)] [] := by
  intro n
  induction n with
  | zero => intro x4 u k; exact False.elim k
  | succ n ih =>
    intro x4 u k
    rw [p_M_moveTo_L9] at k
    by_cases hc1 : 10 ≤ (x4 + (1 : Int32))
    · have k := k.1 hc1
      obtain ⟨rv, v9, hK, hle_u, w9⟩ := hE40 u k
      refine ⟨rv, v9, hK, hle_u, ?_⟩
      intro p e s m args below meth c A H locs ls F hw hl
      obtain ⟨⟨hx, hb, hml, hown, hts⟩, hr, hlocks, hmn⟩ := id F
      refine lv_iload hx hb d_M_moveTo_9 (lv_at hl 3 rfl) ?_
      refine lv_iconst (v := 1) hx hb d_M_moveTo_11 (by decide) ?_
      refine lv_iadd hx hb d_M_moveTo_12 ?_
      refine lv_bipush (v := 10) hx hb d_M_moveTo_13 (by decide) ?_
      refine lv_icmp_ge (tgt := 40) hx hb d_M_moveTo_15 (by decide) (fun _ => ?_) (fun c9 => absurd hc1 c9)
      exact w9 p e s m args below meth c A H locs ls F hw (lv_sub hl [0, 1, 2] rfl)
    · have k := k.2 hc1
      obtain ⟨z_21, h2, k⟩ := k
      obtain ⟨z_22, h3, k⟩ := k
      obtain ⟨z_23, h4, k⟩ := k
      obtain ⟨u_24, h5, k⟩ := k
      obtain ⟨y6, ey6⟩ : ∃ y9 : Int32, y9 = x4 + 1 := ⟨_, rfl⟩
      have k := k y6 ey6
      obtain ⟨rv, v9, hK, hle_u_24, w9⟩ := ih y6 u_24 k
      have hle_u : x_le u v9 := (h5.le).tr hle_u_24
      refine ⟨rv, v9, hK, hle_u, ?_⟩
      intro p e s m args below meth c A H locs ls F hw hl
      obtain ⟨⟨hx, hb, hml, hown, hts⟩, hr, hlocks, hmn⟩ := id F
      refine lv_iload hx hb d_M_moveTo_9 (lv_at hl 3 rfl) ?_
      refine lv_iconst (v := 1) hx hb d_M_moveTo_11 (by decide) ?_
      refine lv_iadd hx hb d_M_moveTo_12 ?_
      refine lv_bipush (v := 10) hx hb d_M_moveTo_13 (by decide) ?_
      refine lv_icmp_ge (tgt := 40) hx hb d_M_moveTo_15 (by decide) (fun c9 => absurd c9 hc1) (fun _ => ?_)
      refine lv_aload_n hx hb d_M_moveTo_18 rfl (lv_at hl 0 rfl) ?_
      refine xr_get hx hb hts (xmu uws_M) hown hw h2 rfl (by decide) (hts _ (xm w_871)) (fun _ h9 => h9) d_M_moveTo_19 ?_
      refine lv_iload hx hb d_M_moveTo_22 (lv_at hl 3 rfl) ?_
      refine lv_aload_n hx hb d_M_moveTo_24 rfl (lv_at hl 0 rfl) ?_
      refine xr_get hx hb hts (xmu uws_M) hown hw h3 rfl (by decide) (hts _ (xm w_871)) (fun _ h9 => h9) d_M_moveTo_25 ?_
      refine lv_iload hx hb d_M_moveTo_28 (lv_at hl 3 rfl) ?_
      refine lv_iconst (v := 1) hx hb d_M_moveTo_30 (by decide) ?_
      refine lv_iadd hx hb d_M_moveTo_31 ?_
      refine xr_iald hx hb hw h4 d_M_moveTo_32 ?_
      refine xr_iast hx hb hw h5 d_M_moveTo_33 (fun H locs hw => ?_)
      refine lv_iinc (v := y6) (lv' := [(4, .int y6), (0, .ref x0), (1, .int x1), (2, .int x2)]) hx hb d_M_moveTo_34 hl (k := 3) rfl (by subst ey6; rfl) (by decide) rfl (fun ls hl => ?_)
      refine lv_goto (tgt := 9) hx hb d_M_moveTo_37 (by decide) ?_
      exact w9 p e s m args below meth c A H locs ls F hw (lv_sub hl [1, 2, 3, 0] rfl)
set_option maxRecDepth 100000 in
set_option maxHeartbeats 4000000 in
theorem t_M_moveTo_L44 (l : Launch) (Z : XZ) (u0 : PS) {Kv : Option Value → PS → Prop} {E72 : PS → Prop} (x0 : Nat) (x1 : Int32) (x2 : Int32) (hE72 : ∀ (v : PS), E72 v → XN l Z i_M_moveTo u0 Kv v 72 [(0, .ref x0), (1, .int x1), (2, .int x2)] []) : ∀ (n : Nat) (x4 : Int32) (u : PS), p_M_moveTo_L44 x0 x1 x2 E72 n x4 u → XN l Z i_M_moveTo u0 Kv u 44 [(0, .ref x0), (1, .int x1), (2, .int x2), (4, .int x4)] [] := by
  intro n
  induction n with
  | zero => intro x4 u k; exact False.elim k
  | succ n ih =>
    intro x4 u k
    rw [p_M_moveTo_L44] at k
    by_cases hc1 : x4 ≤ x2
    · have k := k.1 hc1
      obtain ⟨rv, v9, hK, hle_u, w9⟩ := hE72 u k
      refine ⟨rv, v9, hK, hle_u, ?_⟩
      intro p e s m args below meth c A H locs ls F hw hl
      obtain ⟨⟨hx, hb, hml, hown, hts⟩, hr, hlocks, hmn⟩ := id F
      refine lv_iload hx hb d_M_moveTo_44 (lv_at hl 3 rfl) ?_
      refine lv_iload_n hx hb d_M_moveTo_46 rfl (lv_at hl 2 rfl) ?_
      refine lv_icmp_le (tgt := 72) hx hb d_M_moveTo_47 (by decide) (fun _ => ?_) (fun c9 => absurd hc1 c9)
      exact w9 p e s m args below meth c A H locs ls F hw (lv_sub hl [0, 1, 2] rfl)
    · have k := k.2 hc1
      obtain ⟨z_25, h2, k⟩ := k
      obtain ⟨z_26, h3, k⟩ := k
      obtain ⟨z_27, h4, k⟩ := k
      obtain ⟨u_28, h5, k⟩ := k
      obtain ⟨y6, ey6⟩ : ∃ y9 : Int32, y9 = x4 + (-1) := ⟨_, rfl⟩
      have k := k y6 ey6
      obtain ⟨rv, v9, hK, hle_u_28, w9⟩ := ih y6 u_28 k
      have hle_u : x_le u v9 := (h5.le).tr hle_u_28
      refine ⟨rv, v9, hK, hle_u, ?_⟩
      intro p e s m args below meth c A H locs ls F hw hl
      obtain ⟨⟨hx, hb, hml, hown, hts⟩, hr, hlocks, hmn⟩ := id F
      refine lv_iload hx hb d_M_moveTo_44 (lv_at hl 3 rfl) ?_
      refine lv_iload_n hx hb d_M_moveTo_46 rfl (lv_at hl 2 rfl) ?_
      refine lv_icmp_le (tgt := 72) hx hb d_M_moveTo_47 (by decide) (fun c9 => absurd c9 hc1) (fun _ => ?_)
      refine lv_aload_n hx hb d_M_moveTo_50 rfl (lv_at hl 0 rfl) ?_
      refine xr_get hx hb hts (xmu uws_M) hown hw h2 rfl (by decide) (hts _ (xm w_871)) (fun _ h9 => h9) d_M_moveTo_51 ?_
      refine lv_iload hx hb d_M_moveTo_54 (lv_at hl 3 rfl) ?_
      refine lv_aload_n hx hb d_M_moveTo_56 rfl (lv_at hl 0 rfl) ?_
      refine xr_get hx hb hts (xmu uws_M) hown hw h3 rfl (by decide) (hts _ (xm w_871)) (fun _ h9 => h9) d_M_moveTo_57 ?_
      refine lv_iload hx hb d_M_moveTo_60 (lv_at hl 3 rfl) ?_
      refine lv_iconst (v := 1) hx hb d_M_moveTo_62 (by decide) ?_
      refine lv_isub hx hb d_M_moveTo_63 ?_
      refine xr_iald hx hb hw h4 d_M_moveTo_64 ?_
      refine xr_iast hx hb hw h5 d_M_moveTo_65 (fun H locs hw => ?_)
      refine lv_iinc (v := y6) (lv' := [(4, .int y6), (0, .ref x0), (1, .int x1), (2, .int x2)]) hx hb d_M_moveTo_66 hl (k := 3) rfl (by subst ey6; rfl) (by decide) rfl (fun ls hl => ?_)
      refine lv_goto (tgt := 44) hx hb d_M_moveTo_69 (by decide) ?_
      exact w9 p e s m args below meth c A H locs ls F hw (lv_sub hl [1, 2, 3, 0] rfl)
set_option maxRecDepth 100000 in
set_option maxHeartbeats 4000000 in
theorem t_M_moveTo_J72 (l : Launch) (Z : XZ) (u0 : PS) {K : PS → Prop} (x0 : Nat) (x1 : Int32) (x2 : Int32) (u : PS) (k : (p_M_moveTo_J72 K x0 x1 x2 u)) : XN l Z i_M_moveTo u0 (kV K) u 72 [(0, .ref x0), (1, .int x1), (2, .int x2)] [] := by
  unfold p_M_moveTo_J72 at k
  obtain ⟨z_29, h1, k⟩ := k
  obtain ⟨u_30, h2, k⟩ := k
  have hle_u_30 : x_le u_30 u_30 := x_le.rf u_30
  have hle_u : x_le u u_30 := (h2.le).tr hle_u_30
  refine ⟨none, u_30, ⟨rfl, k⟩, hle_u, ?_⟩
  intro p e s m args below meth c A H locs ls F hw hl
  obtain ⟨⟨hx, hb, hml, hown, hts⟩, hr, hlocks, hmn⟩ := id F
  refine lv_aload_n hx hb d_M_moveTo_72 rfl (lv_at hl 0 rfl) ?_
  refine xr_get hx hb hts (xmu uws_M) hown hw h1 rfl (by decide) (hts _ (xm w_871)) (fun _ h9 => h9) d_M_moveTo_73 ?_
  refine lv_iload_n hx hb d_M_moveTo_76 rfl (lv_at hl 2 rfl) ?_
  refine lv_iload_n hx hb d_M_moveTo_77 rfl (lv_at hl 1 rfl) ?_
  refine xr_iast hx hb hw h2 d_M_moveTo_78 (fun H locs hw => ?_)
  exact xr_vret F rfl hw d_M_moveTo_79
set_option maxRecDepth 100000 in
set_option maxHeartbeats 4000000 in
theorem t_M_moveTo_J40 (l : Launch) (Z : XZ) (u0 : PS) {K : PS → Prop} (x0 : Nat) (x1 : Int32) (x2 : Int32) (u : PS) (k : (p_M_moveTo_J40 K x0 x1 x2 u)) : XN l Z i_M_moveTo u0 (kV K) u 40 [(0, .ref x0), (1, .int x1), (2, .int x2)] [] := by
  unfold p_M_moveTo_J40 at k
  obtain ⟨n1, k⟩ := k
  have hx3 : ∀ (v2 : PS), (p_M_moveTo_J72 K x0 x1 x2 v2) → XN l Z i_M_moveTo u0 (kV K) v2 72 [(0, .ref x0), (1, .int x1), (2, .int x2)] [] := by
    intro v2 k
    obtain ⟨rv, v9, hK, hle_v2, w9⟩ := t_M_moveTo_J72 l Z u0 x0 x1 x2 v2 k
    refine ⟨rv, v9, hK, hle_v2, ?_⟩
    intro p e s m args below meth c A H locs ls F hw hl
    obtain ⟨⟨hx, hb, hml, hown, hts⟩, hr, hlocks, hmn⟩ := id F
    exact w9 p e s m args below meth c A H locs ls F hw (lv_sub hl [0, 1, 2] rfl)
  obtain ⟨rv, v9, hK, hle_u, w9⟩ := t_M_moveTo_L44 l Z u0 x0 x1 x2 hx3 n1 (9 : Int32) u k
  refine ⟨rv, v9, hK, hle_u, ?_⟩
  intro p e s m args below meth c A H locs ls F hw hl
  obtain ⟨⟨hx, hb, hml, hown, hts⟩, hr, hlocks, hmn⟩ := id F
  refine lv_bipush (v := 9) hx hb d_M_moveTo_40 (by decide) ?_
  refine lv_istore (lv' := [(4, .int 9), (0, .ref x0), (1, .int x1), (2, .int x2)]) hx hb d_M_moveTo_42 hl (by decide) rfl (fun ls hl => ?_)
  exact w9 p e s m args below meth c A H locs ls F hw (lv_sub hl [1, 2, 3, 0] rfl)
set_option maxRecDepth 100000 in
set_option maxHeartbeats 4000000 in
theorem c_M_moveTo (l : Launch) (Z : XZ) (x0 : Nat) (x1 : Int32) (x2 : Int32) (u : PS) (K : PS → Prop) (k : p_M_moveTo x0 x1 x2 u K) : ∃ (rv : Option Value) (u1 : PS), (kV K) rv u1 ∧ XMet l Z i_M_moveTo [.ref x0, .int x1, .int x2] u rv u1 := by
  refine x_met (by decide) rfl (Nat.le_of_ble_eq_true rfl) ?_
  show XN l Z i_M_moveTo u (kV K) u 0 [(0, .ref x0), (1, .int x1), (2, .int x2)] []
  unfold p_M_moveTo at k
  obtain ⟨h2, k⟩ := k
  obtain ⟨_, u_19, ⟨r_20, rfl, k⟩, hM1⟩ := c_M_placeOf l Z x0 x1 u _ k
  obtain ⟨n3, k⟩ := k
  have hx5 : ∀ (v4 : PS), (p_M_moveTo_J40 K x0 x1 x2 v4) → XN l Z i_M_moveTo u (kV K) v4 40 [(0, .ref x0), (1, .int x1), (2, .int x2)] [] := by
    intro v4 k
    obtain ⟨rv, v9, hK, hle_v4, w9⟩ := t_M_moveTo_J40 l Z u x0 x1 x2 v4 k
    refine ⟨rv, v9, hK, hle_v4, ?_⟩
    intro p e s m args below meth c A H locs ls F hw hl
    obtain ⟨⟨hx, hb, hml, hown, hts⟩, hr, hlocks, hmn⟩ := id F
    exact w9 p e s m args below meth c A H locs ls F hw (lv_sub hl [0, 1, 2] rfl)
  obtain ⟨rv, v9, hK, hle_u_19, w9⟩ := t_M_moveTo_L9 l Z u x0 x1 x2 hx5 n3 r_20 u_19 k
  have hle_u : x_le u v9 := (hM1.1).tr hle_u_19
  refine ⟨rv, v9, hK, hle_u, ?_⟩
  intro p e s m args below meth c A H locs ls F hw hl
  obtain ⟨⟨hx, hb, hml, hown, hts⟩, hr, hlocks, hmn⟩ := id F
  refine lv_aload_n hx hb d_M_moveTo_0 rfl (lv_at hl 0 rfl) ?_
  refine lv_iload_n hx hb d_M_moveTo_1 rfl (lv_at hl 1 rfl) ?_
  refine xr_cV (As := [.int x1]) (rest := []) ⟨hx, hb, hml, hown, hts⟩ hw hM1 hle_u_19 (fun _ _ => ⟨callB_of 1 hts (xgood w_1012) rfl rfl rfl (hts _ (xm w_8)) (hts _ (xm w_1009)) ⟨by decide, by decide, by decide +kernel⟩ ⟨Nat.le_of_ble_eq_true rfl, Nat.le_of_ble_eq_true rfl⟩, (hts _ (xm w_1011)), (hts _ (xm wp_47))⟩) (qc := (R_M, F_M, 14)) rfl rfl h2 rfl hl.1 rfl (Nat.le_of_ble_eq_true rfl) d_M_moveTo_2 (fun H locs hw => ?_)
  refine W.eq (g2 := F0 m 5 ls [.int r_20]) rfl ?_
  refine lv_istore_n (lv' := [(3, .int r_20), (0, .ref x0), (1, .int x1), (2, .int x2)]) hx hb d_M_moveTo_5 rfl hl (by decide) rfl (fun ls hl => ?_)
  refine lv_iload_n hx hb d_M_moveTo_6 rfl (lv_at hl 0 rfl) ?_
  refine lv_istore (lv' := [(4, .int r_20), (3, .int r_20), (0, .ref x0), (1, .int x1), (2, .int x2)]) hx hb d_M_moveTo_7 hl (by decide) rfl (fun ls hl => ?_)
  exact w9 p e s m args below meth c A H locs ls F hw (lv_sub hl [2, 3, 4, 0] rfl)
set_option maxRecDepth 100000 in
set_option maxHeartbeats 4000000 in
theorem t_M_move_J23 (l : Launch) (Z : XZ) (u0 : PS) {K : Int32 → PS → Prop} (x0 : Nat) (x1 : Int32) (x2 : Int32) (s0 : Nat) (s1 : Int32) (u : PS) (k : (p_M_move_J23 K x0 x1 x2 s0 s1 u)) : XN l Z i_M_move u0 (kI K) u 23 [(0, .ref x0), (1, .int x1), (2, .int x2)] [.int s1, .ref s0] := by
  unfold p_M_move_J23 at k
  obtain ⟨h2, k⟩ := k
  obtain ⟨_, u_12, ⟨r_13, rfl, k⟩, hM1⟩ := c_M_refuse l Z s0 s1 (0 : Int32) u _ k
  by_cases hc3 : r_13 = 0
  · have k := k.1 hc3
    obtain ⟨h5, k⟩ := k
    obtain ⟨_, u_14, ⟨rfl, k⟩, hM4⟩ := c_M_moveTo l Z x0 x1 x2 u_12 _ k
    obtain ⟨h7, k⟩ := k
    obtain ⟨_, u_15, ⟨r_16, rfl, k⟩, hM6⟩ := c_M_whole l Z x0 u_14 _ k
    have hle_u_15 : x_le u_15 u_15 := x_le.rf u_15
    have hle_u_14 : x_le u_14 u_15 := (hM6.1).tr hle_u_15
    have hle_u_12 : x_le u_12 u_15 := (hM4.1).tr hle_u_14
    have hle_u : x_le u u_15 := (hM1.1).tr hle_u_12
    refine ⟨some (.int r_16), u_15, ⟨r_16, rfl, k⟩, hle_u, ?_⟩
    intro p e s m args below meth c A H locs ls F hw hl
    obtain ⟨⟨hx, hb, hml, hown, hts⟩, hr, hlocks, hmn⟩ := id F
    refine lv_iconst (v := 0) hx hb d_M_move_23 (by decide) ?_
    refine xr_cV (As := [.int s1, .int 0]) (rest := []) ⟨hx, hb, hml, hown, hts⟩ hw hM1 hle_u_12 (fun _ _ => ⟨callB_of 2 hts (xgood w_929) rfl rfl rfl (hts _ (xm w_8)) (hts _ (xm w_926)) ⟨by decide, by decide, by decide +kernel⟩ ⟨Nat.le_of_ble_eq_true rfl, Nat.le_of_ble_eq_true rfl⟩, (hts _ (xm w_928)), (hts _ (xm wp_38))⟩) (qc := (R_M, F_M, 14)) rfl rfl h2 rfl hl.1 rfl (Nat.le_of_ble_eq_true rfl) d_M_move_24 (fun H locs hw => ?_)
    refine W.eq (g2 := F0 m 27 ls [.int r_13]) rfl ?_
    refine lv_if_eq (tgt := 32) hx hb d_M_move_27 (by decide) (fun _ => ?_) (fun c9 => absurd hc3 c9)
    refine lv_aload_n hx hb d_M_move_32 rfl (lv_at hl 0 rfl) ?_
    refine lv_iload_n hx hb d_M_move_33 rfl (lv_at hl 1 rfl) ?_
    refine lv_iload_n hx hb d_M_move_34 rfl (lv_at hl 2 rfl) ?_
    refine xr_cV (As := [.int x1, .int x2]) (rest := []) ⟨hx, hb, hml, hown, hts⟩ hw hM4 hle_u_14 (fun _ _ => ⟨callB_of 2 hts (xgood w_1008) rfl rfl rfl (hts _ (xm w_8)) (hts _ (xm w_1005)) ⟨by decide, by decide, by decide +kernel⟩ ⟨Nat.le_of_ble_eq_true rfl, Nat.le_of_ble_eq_true rfl⟩, (hts _ (xm w_1007)), (hts _ (xm wp_46))⟩) (qc := (R_M, F_M, 14)) rfl rfl h5 rfl hl.1 rfl (Nat.le_of_ble_eq_true rfl) d_M_move_35 (fun H locs hw => ?_)
    refine W.eq (g2 := F0 m 38 ls []) rfl ?_
    refine lv_aload_n hx hb d_M_move_38 rfl (lv_at hl 0 rfl) ?_
    refine xr_cV (As := []) (rest := []) ⟨hx, hb, hml, hown, hts⟩ hw hM6 hle_u_15 (fun _ _ => ⟨callB_of 0 hts (xgood w_983) rfl rfl rfl (hts _ (xm w_8)) (hts _ (xm w_980)) ⟨by decide, by decide, by decide +kernel⟩ ⟨Nat.le_of_ble_eq_true rfl, Nat.le_of_ble_eq_true rfl⟩, (hts _ (xm w_982)), (hts _ (xm wp_42))⟩) (qc := (R_M, F_M, 14)) rfl rfl h7 rfl hl.1 rfl (Nat.le_of_ble_eq_true rfl) d_M_move_39 (fun H locs hw => ?_)
    refine W.eq (g2 := F0 m 42 ls [.int r_16]) rfl ?_
    exact xr_iret F rfl hw d_M_move_42
  · have k := k.2 hc3
    have hle_u_12 : x_le u_12 u_12 := x_le.rf u_12
    have hle_u : x_le u u_12 := (hM1.1).tr hle_u_12
    refine ⟨some (.int 0), u_12, ⟨(0 : Int32), rfl, k⟩, hle_u, ?_⟩
    intro p e s m args below meth c A H locs ls F hw hl
    obtain ⟨⟨hx, hb, hml, hown, hts⟩, hr, hlocks, hmn⟩ := id F
    refine lv_iconst (v := 0) hx hb d_M_move_23 (by decide) ?_
    refine xr_cV (As := [.int s1, .int 0]) (rest := []) ⟨hx, hb, hml, hown, hts⟩ hw hM1 hle_u_12 (fun _ _ => ⟨callB_of 2 hts (xgood w_929) rfl rfl rfl (hts _ (xm w_8)) (hts _ (xm w_926)) ⟨by decide, by decide, by decide +kernel⟩ ⟨Nat.le_of_ble_eq_true rfl, Nat.le_of_ble_eq_true rfl⟩, (hts _ (xm w_928)), (hts _ (xm wp_38))⟩) (qc := (R_M, F_M, 14)) rfl rfl h2 rfl hl.1 rfl (Nat.le_of_ble_eq_true rfl) d_M_move_24 (fun H locs hw => ?_)
    refine W.eq (g2 := F0 m 27 ls [.int r_13]) rfl ?_
    refine lv_if_eq (tgt := 32) hx hb d_M_move_27 (by decide) (fun c9 => absurd c9 hc3) (fun _ => ?_)
    refine lv_iconst (v := 0) hx hb d_M_move_30 (by decide) ?_
    exact xr_iret F rfl hw d_M_move_31
set_option maxRecDepth 100000 in
set_option maxHeartbeats 4000000 in
theorem t_M_move_J18 (l : Launch) (Z : XZ) (u0 : PS) {K : Int32 → PS → Prop} (x0 : Nat) (x1 : Int32) (x2 : Int32) (s0 : Nat) (u : PS) (k : (p_M_move_J18 K x0 x1 x2 s0 u)) : XN l Z i_M_move u0 (kI K) u 18 [(0, .ref x0), (1, .int x1), (2, .int x2)] [.ref s0] := by
  unfold p_M_move_J18 at k
  obtain ⟨rv, v9, hK, hle_u, w9⟩ := t_M_move_J23 l Z u0 x0 x1 x2 s0 (1 : Int32) u k
  refine ⟨rv, v9, hK, hle_u, ?_⟩
  intro p e s m args below meth c A H locs ls F hw hl
  obtain ⟨⟨hx, hb, hml, hown, hts⟩, hr, hlocks, hmn⟩ := id F
  refine lv_iconst (v := 1) hx hb d_M_move_18 (by decide) ?_
  refine lv_goto (tgt := 23) hx hb d_M_move_19 (by decide) ?_
  exact w9 p e s m args below meth c A H locs ls F hw (lv_sub hl [0, 1, 2] rfl)
set_option maxRecDepth 100000 in
set_option maxHeartbeats 4000000 in
theorem c_M_move (l : Launch) (Z : XZ) (x0 : Nat) (x1 : Int32) (x2 : Int32) (u : PS) (K : Int32 → PS → Prop) (k : p_M_move x0 x1 x2 u K) : ∃ (rv : Option Value) (u1 : PS), (kI K) rv u1 ∧ XMet l Z i_M_move [.ref x0, .int x1, .int x2] u rv u1 := by
  refine x_met (by decide) rfl (Nat.le_of_ble_eq_true rfl) ?_
  show XN l Z i_M_move u (kI K) u 0 [(0, .ref x0), (1, .int x1), (2, .int x2)] []
  unfold p_M_move at k
  obtain ⟨_, u_10, ⟨r_11, rfl, k⟩, hM1⟩ := c_M_isInput l Z x1 u _ k
  by_cases hc2 : r_11 = 0
  · have k := k.1 hc2
    obtain ⟨rv, v9, hK, hle_u_10, w9⟩ := t_M_move_J18 l Z u x0 x1 x2 x0 u_10 k
    have hle_u : x_le u v9 := (hM1.1).tr hle_u_10
    refine ⟨rv, v9, hK, hle_u, ?_⟩
    intro p e s m args below meth c A H locs ls F hw hl
    obtain ⟨⟨hx, hb, hml, hown, hts⟩, hr, hlocks, hmn⟩ := id F
    refine lv_aload_n hx hb d_M_move_0 rfl (lv_at hl 0 rfl) ?_
    refine lv_iload_n hx hb d_M_move_1 rfl (lv_at hl 1 rfl) ?_
    refine xr_cS (As := [.int x1]) (rest := [.ref x0]) ⟨hx, hb, hml, hown, hts⟩ hw hM1 hle_u_10 (fun _ _ => ⟨callB_of 1 hts (xgood w_936) rfl rfl rfl (hts _ (xm w_8)) (hts _ (xm w_934)) ⟨by decide, by decide, by decide +kernel⟩ ⟨Nat.le_of_ble_eq_true rfl, Nat.le_of_ble_eq_true rfl⟩, (hts _ (xm w_935))⟩) rfl hl.1 rfl (Nat.le_of_ble_eq_true rfl) d_M_move_2 (fun H locs hw => ?_)
    refine W.eq (g2 := F0 m 5 ls [.int r_11, .ref x0]) rfl ?_
    refine lv_if_eq (tgt := 18) hx hb d_M_move_5 (by decide) (fun _ => ?_) (fun c9 => absurd hc2 c9)
    exact w9 p e s m args below meth c A H locs ls F hw (lv_sub hl [0, 1, 2] rfl)
  · have k := k.2 hc2
    obtain ⟨_, u_17, ⟨r_18, rfl, k⟩, hM3⟩ := c_M_in l Z x2 (0 : Int32) (9 : Int32) u_10 _ k
    by_cases hc4 : r_18 = 0
    · have k := k.2 hc4
      obtain ⟨rv, v9, hK, hle_u_17, w9⟩ := t_M_move_J18 l Z u x0 x1 x2 x0 u_17 k
      have hle_u_10 : x_le u_10 v9 := (hM3.1).tr hle_u_17
      have hle_u : x_le u v9 := (hM1.1).tr hle_u_10
      refine ⟨rv, v9, hK, hle_u, ?_⟩
      intro p e s m args below meth c A H locs ls F hw hl
      obtain ⟨⟨hx, hb, hml, hown, hts⟩, hr, hlocks, hmn⟩ := id F
      refine lv_aload_n hx hb d_M_move_0 rfl (lv_at hl 0 rfl) ?_
      refine lv_iload_n hx hb d_M_move_1 rfl (lv_at hl 1 rfl) ?_
      refine xr_cS (As := [.int x1]) (rest := [.ref x0]) ⟨hx, hb, hml, hown, hts⟩ hw hM1 hle_u_10 (fun _ _ => ⟨callB_of 1 hts (xgood w_936) rfl rfl rfl (hts _ (xm w_8)) (hts _ (xm w_934)) ⟨by decide, by decide, by decide +kernel⟩ ⟨Nat.le_of_ble_eq_true rfl, Nat.le_of_ble_eq_true rfl⟩, (hts _ (xm w_935))⟩) rfl hl.1 rfl (Nat.le_of_ble_eq_true rfl) d_M_move_2 (fun H locs hw => ?_)
      refine W.eq (g2 := F0 m 5 ls [.int r_11, .ref x0]) rfl ?_
      refine lv_if_eq (tgt := 18) hx hb d_M_move_5 (by decide) (fun c9 => absurd c9 hc2) (fun _ => ?_)
      refine lv_iload_n hx hb d_M_move_8 rfl (lv_at hl 2 rfl) ?_
      refine lv_iconst (v := 0) hx hb d_M_move_9 (by decide) ?_
      refine lv_bipush (v := 9) hx hb d_M_move_10 (by decide) ?_
      refine xr_cS (As := [.int x2, .int 0, .int 9]) (rest := [.ref x0]) ⟨hx, hb, hml, hown, hts⟩ hw hM3 hle_u_17 (fun _ _ => ⟨callB_of 3 hts (xgood w_925) rfl rfl rfl (hts _ (xm w_8)) (hts _ (xm w_923)) ⟨by decide, by decide, by decide +kernel⟩ ⟨Nat.le_of_ble_eq_true rfl, Nat.le_of_ble_eq_true rfl⟩, (hts _ (xm w_924))⟩) rfl hl.1 rfl (Nat.le_of_ble_eq_true rfl) d_M_move_12 (fun H locs hw => ?_)
      refine W.eq (g2 := F0 m 15 ls [.int r_18, .ref x0]) rfl ?_
      refine lv_if_ne (tgt := 22) hx hb d_M_move_15 (by decide) (fun c9 => absurd hc4 c9) (fun _ => ?_)
      exact w9 p e s m args below meth c A H locs ls F hw (lv_sub hl [0, 1, 2] rfl)
    · have k := k.1 hc4
      obtain ⟨rv, v9, hK, hle_u_17, w9⟩ := t_M_move_J23 l Z u x0 x1 x2 x0 (0 : Int32) u_17 k
      have hle_u_10 : x_le u_10 v9 := (hM3.1).tr hle_u_17
      have hle_u : x_le u v9 := (hM1.1).tr hle_u_10
      refine ⟨rv, v9, hK, hle_u, ?_⟩
      intro p e s m args below meth c A H locs ls F hw hl
      obtain ⟨⟨hx, hb, hml, hown, hts⟩, hr, hlocks, hmn⟩ := id F
      refine lv_aload_n hx hb d_M_move_0 rfl (lv_at hl 0 rfl) ?_
      refine lv_iload_n hx hb d_M_move_1 rfl (lv_at hl 1 rfl) ?_
      refine xr_cS (As := [.int x1]) (rest := [.ref x0]) ⟨hx, hb, hml, hown, hts⟩ hw hM1 hle_u_10 (fun _ _ => ⟨callB_of 1 hts (xgood w_936) rfl rfl rfl (hts _ (xm w_8)) (hts _ (xm w_934)) ⟨by decide, by decide, by decide +kernel⟩ ⟨Nat.le_of_ble_eq_true rfl, Nat.le_of_ble_eq_true rfl⟩, (hts _ (xm w_935))⟩) rfl hl.1 rfl (Nat.le_of_ble_eq_true rfl) d_M_move_2 (fun H locs hw => ?_)
      refine W.eq (g2 := F0 m 5 ls [.int r_11, .ref x0]) rfl ?_
      refine lv_if_eq (tgt := 18) hx hb d_M_move_5 (by decide) (fun c9 => absurd c9 hc2) (fun _ => ?_)
      refine lv_iload_n hx hb d_M_move_8 rfl (lv_at hl 2 rfl) ?_
      refine lv_iconst (v := 0) hx hb d_M_move_9 (by decide) ?_
      refine lv_bipush (v := 9) hx hb d_M_move_10 (by decide) ?_
      refine xr_cS (As := [.int x2, .int 0, .int 9]) (rest := [.ref x0]) ⟨hx, hb, hml, hown, hts⟩ hw hM3 hle_u_17 (fun _ _ => ⟨callB_of 3 hts (xgood w_925) rfl rfl rfl (hts _ (xm w_8)) (hts _ (xm w_923)) ⟨by decide, by decide, by decide +kernel⟩ ⟨Nat.le_of_ble_eq_true rfl, Nat.le_of_ble_eq_true rfl⟩, (hts _ (xm w_924))⟩) rfl hl.1 rfl (Nat.le_of_ble_eq_true rfl) d_M_move_12 (fun H locs hw => ?_)
      refine W.eq (g2 := F0 m 15 ls [.int r_18, .ref x0]) rfl ?_
      refine lv_if_ne (tgt := 22) hx hb d_M_move_15 (by decide) (fun _ => ?_) (fun c9 => absurd c9 hc4)
      refine lv_iconst (v := 0) hx hb d_M_move_22 (by decide) ?_
      exact w9 p e s m args below meth c A H locs ls F hw (lv_sub hl [0, 1, 2] rfl)
set_option maxRecDepth 100000 in
set_option maxHeartbeats 4000000 in
theorem t_M_siftInput_J56 (l : Launch) (Z : XZ) (u0 : PS) {Kv : Option Value → PS → Prop} {R : Int32 → Int32 → Int32 → PS → Prop} {E63 : Int32 → PS → Prop} (x0 : Nat) (x1 : Int32) (x2 : Int32) (x4 : Int32) (s0 : Int32) (u : PS) (hR : ∀ (y2 : Int32) (y3 : Int32) (y4 : Int32) (v : PS), R y2 y3 y4 v → XN l Z i_M_siftInput u0 Kv v 7 [(0, .ref x0), (1, .int x1), (2, .int y2), (3, .int y3), (4, .int y4)] []) (hE63 : ∀ (y2 : Int32) (v : PS), E63 y2 v → XN l Z i_M_siftInput u0 Kv v 63 [(0, .ref x0), (1, .int x1), (2, .int y2)] []) (k : (p_M_siftInput_J56 R E63 x0 x1 x2 x4 s0 u)) : XN l Z i_M_siftInput u0 Kv u 56 [(0, .ref x0), (1, .int x1), (2, .int x2), (4, .int x4)] [.int s0] := by
  unfold p_M_siftInput_J56 at k
  obtain ⟨y1, ey1⟩ : ∃ y9 : Int32, y9 = x4 + 1 := ⟨_, rfl⟩
  have k := k y1 ey1
  obtain ⟨rv, v9, hK, hle_u, w9⟩ := hR x2 s0 y1 u k
  refine ⟨rv, v9, hK, hle_u, ?_⟩
  intro p e s m args below meth c A H locs ls F hw hl
  obtain ⟨⟨hx, hb, hml, hown, hts⟩, hr, hlocks, hmn⟩ := id F
  refine lv_istore_n (lv' := [(3, .int s0), (0, .ref x0), (1, .int x1), (2, .int x2), (4, .int x4)]) hx hb d_M_siftInput_56 rfl hl (by decide) rfl (fun ls hl => ?_)
  refine lv_iinc (v := y1) (lv' := [(4, .int y1), (3, .int s0), (0, .ref x0), (1, .int x1), (2, .int x2)]) hx hb d_M_siftInput_57 hl (k := 4) rfl (by subst ey1; rfl) (by decide) rfl (fun ls hl => ?_)
  refine lv_goto (tgt := 7) hx hb d_M_siftInput_60 (by decide) ?_
  exact w9 p e s m args below meth c A H locs ls F hw (lv_sub hl [2, 3, 4, 1, 0] rfl)
set_option maxRecDepth 100000 in
set_option maxHeartbeats 4000000 in
theorem t_M_siftInput_J43 (l : Launch) (Z : XZ) (u0 : PS) {Kv : Option Value → PS → Prop} {R : Int32 → Int32 → Int32 → PS → Prop} {E63 : Int32 → PS → Prop} (x0 : Nat) (x1 : Int32) (x3 : Int32) (x4 : Int32) (x5 : Int32) (s0 : Int32) (u : PS) (hR : ∀ (y2 : Int32) (y3 : Int32) (y4 : Int32) (v : PS), R y2 y3 y4 v → XN l Z i_M_siftInput u0 Kv v 7 [(0, .ref x0), (1, .int x1), (2, .int y2), (3, .int y3), (4, .int y4)] []) (hE63 : ∀ (y2 : Int32) (v : PS), E63 y2 v → XN l Z i_M_siftInput u0 Kv v 63 [(0, .ref x0), (1, .int x1), (2, .int y2)] []) (k : (p_M_siftInput_J43 R E63 x0 x1 x3 x4 x5 s0 u)) : XN l Z i_M_siftInput u0 Kv u 43 [(0, .ref x0), (1, .int x1), (3, .int x3), (4, .int x4), (5, .int x5)] [.int s0] := by
  unfold p_M_siftInput_J43 at k
  by_cases hc1 : s0 = x4
  · have k := k.2 hc1
    obtain ⟨rv, v9, hK, hle_u, w9⟩ := t_M_siftInput_J56 l Z u0 x0 x1 s0 x4 x5 u hR hE63 k
    refine ⟨rv, v9, hK, hle_u, ?_⟩
    intro p e s m args below meth c A H locs ls F hw hl
    obtain ⟨⟨hx, hb, hml, hown, hts⟩, hr, hlocks, hmn⟩ := id F
    refine lv_istore_n (lv' := [(2, .int s0), (0, .ref x0), (1, .int x1), (3, .int x3), (4, .int x4), (5, .int x5)]) hx hb d_M_siftInput_43 rfl hl (by decide) rfl (fun ls hl => ?_)
    refine lv_iload_n hx hb d_M_siftInput_44 rfl (lv_at hl 0 rfl) ?_
    refine lv_iload hx hb d_M_siftInput_45 (lv_at hl 4 rfl) ?_
    refine lv_icmp_ne (tgt := 55) hx hb d_M_siftInput_47 (by decide) (fun c9 => absurd hc1 c9) (fun _ => ?_)
    refine lv_iload hx hb d_M_siftInput_50 (lv_at hl 5 rfl) ?_
    refine lv_goto (tgt := 56) hx hb d_M_siftInput_52 (by decide) ?_
    exact w9 p e s m args below meth c A H locs ls F hw (lv_sub hl [1, 2, 0, 4] rfl)
  · have k := k.1 hc1
    obtain ⟨rv, v9, hK, hle_u, w9⟩ := t_M_siftInput_J56 l Z u0 x0 x1 s0 x4 x3 u hR hE63 k
    refine ⟨rv, v9, hK, hle_u, ?_⟩
    intro p e s m args below meth c A H locs ls F hw hl
    obtain ⟨⟨hx, hb, hml, hown, hts⟩, hr, hlocks, hmn⟩ := id F
    refine lv_istore_n (lv' := [(2, .int s0), (0, .ref x0), (1, .int x1), (3, .int x3), (4, .int x4), (5, .int x5)]) hx hb d_M_siftInput_43 rfl hl (by decide) rfl (fun ls hl => ?_)
    refine lv_iload_n hx hb d_M_siftInput_44 rfl (lv_at hl 0 rfl) ?_
    refine lv_iload hx hb d_M_siftInput_45 (lv_at hl 4 rfl) ?_
    refine lv_icmp_ne (tgt := 55) hx hb d_M_siftInput_47 (by decide) (fun _ => ?_) (fun c9 => absurd c9 hc1)
    refine lv_iload_n hx hb d_M_siftInput_55 rfl (lv_at hl 3 rfl) ?_
    exact w9 p e s m args below meth c A H locs ls F hw (lv_sub hl [1, 2, 0, 4] rfl)
set_option maxRecDepth 100000 in
set_option maxHeartbeats 4000000 in
theorem t_M_siftInput_J37 (l : Launch) (Z : XZ) (u0 : PS) {Kv : Option Value → PS → Prop} {R : Int32 → Int32 → Int32 → PS → Prop} {E63 : Int32 → PS → Prop} (x0 : Nat) (x1 : Int32) (x3 : Int32) (x4 : Int32) (x5 : Int32) (u : PS) (hR : ∀ (y2 : Int32) (y3 : Int32) (y4 : Int32) (v : PS), R y2 y3 y4 v → XN l Z i_M_siftInput u0 Kv v 7 [(0, .ref x0), (1, .int x1), (2, .int y2), (3, .int y3), (4, .int y4)] []) (hE63 : ∀ (y2 : Int32) (v : PS), E63 y2 v → XN l Z i_M_siftInput u0 Kv v 63 [(0, .ref x0), (1, .int x1), (2, .int y2)] []) (k : (p_M_siftInput_J37 R E63 x0 x1 x3 x4 x5 u)) : XN l Z i_M_siftInput u0 Kv u 37 [(0, .ref x0), (1, .int x1), (3, .int x3), (4, .int x4), (5, .int x5)] [] := by
  unfold p_M_siftInput_J37 at k
  obtain ⟨rv, v9, hK, hle_u, w9⟩ := t_M_siftInput_J43 l Z u0 x0 x1 x3 x4 x5 x4 u hR hE63 k
  refine ⟨rv, v9, hK, hle_u, ?_⟩
  intro p e s m args below meth c A H locs ls F hw hl
  obtain ⟨⟨hx, hb, hml, hown, hts⟩, hr, hlocks, hmn⟩ := id F
  refine lv_iload hx hb d_M_siftInput_37 (lv_at hl 3 rfl) ?_
  refine lv_goto (tgt := 43) hx hb d_M_siftInput_39 (by decide) ?_
  exact w9 p e s m args below meth c A H locs ls F hw (lv_sub hl [0, 1, 2, 3, 4] rfl)
set_option maxRecDepth 100000 in
set_option maxHeartbeats 4000000 in
theorem t_M_siftInput_L7 (l : Launch) (Z : XZ) (u0 : PS) {Kv : Option Value → PS → Prop} {E63 : Int32 → PS → Prop} (x0 : Nat) (x1 : Int32) (hE63 : ∀ (y2 : Int32) (v : PS), E63 y2 v → XN l Z i_M_siftInput u0 Kv v 63 [(0, .ref x0), (1, .int x1), (2, .int y2)] []) : ∀ (n : Nat) (x2 : Int32) (x3 : Int32) (x4 : Int32) (u : PS), p_M_siftInput_L7 x0 x1 E63 n x2 x3 x4 u → XN l Z i_M_siftInput u0 Kv u 7 [(0, .ref x0), (1, .int x1), (2, .int x2), (3, .int x3), (4, .int x4)] [] := by
  intro n
  induction n with
  | zero => intro x2 x3 x4 u k; exact False.elim k
  | succ n ih =>
    intro x2 x3 x4 u k
    rw [p_M_siftInput_L7] at k
    by_cases hc1 : 10 ≤ x4
    · have k := k.1 hc1
      obtain ⟨rv, v9, hK, hle_u, w9⟩ := hE63 x2 u k
      refine ⟨rv, v9, hK, hle_u, ?_⟩
      intro p e s m args below meth c A H locs ls F hw hl
      obtain ⟨⟨hx, hb, hml, hown, hts⟩, hr, hlocks, hmn⟩ := id F
      refine lv_iload hx hb d_M_siftInput_7 (lv_at hl 4 rfl) ?_
      refine lv_bipush (v := 10) hx hb d_M_siftInput_9 (by decide) ?_
      refine lv_icmp_ge (tgt := 63) hx hb d_M_siftInput_11 (by decide) (fun _ => ?_) (fun c9 => absurd hc1 c9)
      exact w9 p e s m args below meth c A H locs ls F hw (lv_sub hl [0, 1, 2] rfl)
    · have k := k.2 hc1
      obtain ⟨h3, k⟩ := k
      obtain ⟨_, u_9, ⟨rfl, k⟩, hM2⟩ := c_M_moveTo l Z x0 x1 x4 u _ k
      obtain ⟨h5, k⟩ := k
      obtain ⟨_, u_10, ⟨r_11, rfl, k⟩, hM4⟩ := c_M_whole l Z x0 u_9 _ k
      by_cases hc6 : x2 < 0
      · have k := k.1 hc6
        obtain ⟨rv, v9, hK, hle_u_10, w9⟩ := t_M_siftInput_J37 l Z u0 x0 x1 x3 x4 r_11 u_10 ih hE63 k
        have hle_u_9 : x_le u_9 v9 := (hM4.1).tr hle_u_10
        have hle_u : x_le u v9 := (hM2.1).tr hle_u_9
        refine ⟨rv, v9, hK, hle_u, ?_⟩
        intro p e s m args below meth c A H locs ls F hw hl
        obtain ⟨⟨hx, hb, hml, hown, hts⟩, hr, hlocks, hmn⟩ := id F
        refine lv_iload hx hb d_M_siftInput_7 (lv_at hl 4 rfl) ?_
        refine lv_bipush (v := 10) hx hb d_M_siftInput_9 (by decide) ?_
        refine lv_icmp_ge (tgt := 63) hx hb d_M_siftInput_11 (by decide) (fun c9 => absurd c9 hc1) (fun _ => ?_)
        refine lv_aload_n hx hb d_M_siftInput_14 rfl (lv_at hl 0 rfl) ?_
        refine lv_iload_n hx hb d_M_siftInput_15 rfl (lv_at hl 1 rfl) ?_
        refine lv_iload hx hb d_M_siftInput_16 (lv_at hl 4 rfl) ?_
        refine xr_cV (As := [.int x1, .int x4]) (rest := []) ⟨hx, hb, hml, hown, hts⟩ hw hM2 hle_u_9 (fun _ _ => ⟨callB_of 2 hts (xgood w_1008) rfl rfl rfl (hts _ (xm w_8)) (hts _ (xm w_1005)) ⟨by decide, by decide, by decide +kernel⟩ ⟨Nat.le_of_ble_eq_true rfl, Nat.le_of_ble_eq_true rfl⟩, (hts _ (xm w_1007)), (hts _ (xm wp_46))⟩) (qc := (R_M, F_M, 14)) rfl rfl h3 rfl hl.1 rfl (Nat.le_of_ble_eq_true rfl) d_M_siftInput_18 (fun H locs hw => ?_)
        refine W.eq (g2 := F0 m 21 ls []) rfl ?_
        refine lv_aload_n hx hb d_M_siftInput_21 rfl (lv_at hl 0 rfl) ?_
        refine xr_cV (As := []) (rest := []) ⟨hx, hb, hml, hown, hts⟩ hw hM4 hle_u_10 (fun _ _ => ⟨callB_of 0 hts (xgood w_983) rfl rfl rfl (hts _ (xm w_8)) (hts _ (xm w_980)) ⟨by decide, by decide, by decide +kernel⟩ ⟨Nat.le_of_ble_eq_true rfl, Nat.le_of_ble_eq_true rfl⟩, (hts _ (xm w_982)), (hts _ (xm wp_42))⟩) (qc := (R_M, F_M, 14)) rfl rfl h5 rfl hl.1 rfl (Nat.le_of_ble_eq_true rfl) d_M_siftInput_22 (fun H locs hw => ?_)
        refine W.eq (g2 := F0 m 25 ls [.int r_11]) rfl ?_
        refine lv_istore (lv' := [(5, .int r_11), (0, .ref x0), (1, .int x1), (2, .int x2), (3, .int x3), (4, .int x4)]) hx hb d_M_siftInput_25 hl (by decide) rfl (fun ls hl => ?_)
        refine lv_iload_n hx hb d_M_siftInput_27 rfl (lv_at hl 3 rfl) ?_
        refine lv_if_lt (tgt := 37) hx hb d_M_siftInput_28 (by decide) (fun _ => ?_) (fun c9 => absurd hc6 c9)
        exact w9 p e s m args below meth c A H locs ls F hw (lv_sub hl [1, 2, 4, 5, 0] rfl)
      · have k := k.2 hc6
        by_cases hc7 : x3 ≤ r_11
        · have k := k.1 hc7
          obtain ⟨rv, v9, hK, hle_u_10, w9⟩ := t_M_siftInput_J43 l Z u0 x0 x1 x3 x4 r_11 x2 u_10 ih hE63 k
          have hle_u_9 : x_le u_9 v9 := (hM4.1).tr hle_u_10
          have hle_u : x_le u v9 := (hM2.1).tr hle_u_9
          refine ⟨rv, v9, hK, hle_u, ?_⟩
          intro p e s m args below meth c A H locs ls F hw hl
          obtain ⟨⟨hx, hb, hml, hown, hts⟩, hr, hlocks, hmn⟩ := id F
          refine lv_iload hx hb d_M_siftInput_7 (lv_at hl 4 rfl) ?_
          refine lv_bipush (v := 10) hx hb d_M_siftInput_9 (by decide) ?_
          refine lv_icmp_ge (tgt := 63) hx hb d_M_siftInput_11 (by decide) (fun c9 => absurd c9 hc1) (fun _ => ?_)
          refine lv_aload_n hx hb d_M_siftInput_14 rfl (lv_at hl 0 rfl) ?_
          refine lv_iload_n hx hb d_M_siftInput_15 rfl (lv_at hl 1 rfl) ?_
          refine lv_iload hx hb d_M_siftInput_16 (lv_at hl 4 rfl) ?_
          refine xr_cV (As := [.int x1, .int x4]) (rest := []) ⟨hx, hb, hml, hown, hts⟩ hw hM2 hle_u_9 (fun _ _ => ⟨callB_of 2 hts (xgood w_1008) rfl rfl rfl (hts _ (xm w_8)) (hts _ (xm w_1005)) ⟨by decide, by decide, by decide +kernel⟩ ⟨Nat.le_of_ble_eq_true rfl, Nat.le_of_ble_eq_true rfl⟩, (hts _ (xm w_1007)), (hts _ (xm wp_46))⟩) (qc := (R_M, F_M, 14)) rfl rfl h3 rfl hl.1 rfl (Nat.le_of_ble_eq_true rfl) d_M_siftInput_18 (fun H locs hw => ?_)
          refine W.eq (g2 := F0 m 21 ls []) rfl ?_
          refine lv_aload_n hx hb d_M_siftInput_21 rfl (lv_at hl 0 rfl) ?_
          refine xr_cV (As := []) (rest := []) ⟨hx, hb, hml, hown, hts⟩ hw hM4 hle_u_10 (fun _ _ => ⟨callB_of 0 hts (xgood w_983) rfl rfl rfl (hts _ (xm w_8)) (hts _ (xm w_980)) ⟨by decide, by decide, by decide +kernel⟩ ⟨Nat.le_of_ble_eq_true rfl, Nat.le_of_ble_eq_true rfl⟩, (hts _ (xm w_982)), (hts _ (xm wp_42))⟩) (qc := (R_M, F_M, 14)) rfl rfl h5 rfl hl.1 rfl (Nat.le_of_ble_eq_true rfl) d_M_siftInput_22 (fun H locs hw => ?_)
          refine W.eq (g2 := F0 m 25 ls [.int r_11]) rfl ?_
          refine lv_istore (lv' := [(5, .int r_11), (0, .ref x0), (1, .int x1), (2, .int x2), (3, .int x3), (4, .int x4)]) hx hb d_M_siftInput_25 hl (by decide) rfl (fun ls hl => ?_)
          refine lv_iload_n hx hb d_M_siftInput_27 rfl (lv_at hl 3 rfl) ?_
          refine lv_if_lt (tgt := 37) hx hb d_M_siftInput_28 (by decide) (fun c9 => absurd c9 hc6) (fun _ => ?_)
          refine lv_iload hx hb d_M_siftInput_31 (lv_at hl 0 rfl) ?_
          refine lv_iload_n hx hb d_M_siftInput_33 rfl (lv_at hl 4 rfl) ?_
          refine lv_icmp_ge (tgt := 42) hx hb d_M_siftInput_34 (by decide) (fun _ => ?_) (fun c9 => absurd hc7 c9)
          refine lv_iload_n hx hb d_M_siftInput_42 rfl (lv_at hl 3 rfl) ?_
          exact w9 p e s m args below meth c A H locs ls F hw (lv_sub hl [1, 2, 4, 5, 0] rfl)
        · have k := k.2 hc7
          obtain ⟨rv, v9, hK, hle_u_10, w9⟩ := t_M_siftInput_J37 l Z u0 x0 x1 x3 x4 r_11 u_10 ih hE63 k
          have hle_u_9 : x_le u_9 v9 := (hM4.1).tr hle_u_10
          have hle_u : x_le u v9 := (hM2.1).tr hle_u_9
          refine ⟨rv, v9, hK, hle_u, ?_⟩
          intro p e s m args below meth c A H locs ls F hw hl
          obtain ⟨⟨hx, hb, hml, hown, hts⟩, hr, hlocks, hmn⟩ := id F
          refine lv_iload hx hb d_M_siftInput_7 (lv_at hl 4 rfl) ?_
          refine lv_bipush (v := 10) hx hb d_M_siftInput_9 (by decide) ?_
          refine lv_icmp_ge (tgt := 63) hx hb d_M_siftInput_11 (by decide) (fun c9 => absurd c9 hc1) (fun _ => ?_)
          refine lv_aload_n hx hb d_M_siftInput_14 rfl (lv_at hl 0 rfl) ?_
          refine lv_iload_n hx hb d_M_siftInput_15 rfl (lv_at hl 1 rfl) ?_
          refine lv_iload hx hb d_M_siftInput_16 (lv_at hl 4 rfl) ?_
          refine xr_cV (As := [.int x1, .int x4]) (rest := []) ⟨hx, hb, hml, hown, hts⟩ hw hM2 hle_u_9 (fun _ _ => ⟨callB_of 2 hts (xgood w_1008) rfl rfl rfl (hts _ (xm w_8)) (hts _ (xm w_1005)) ⟨by decide, by decide, by decide +kernel⟩ ⟨Nat.le_of_ble_eq_true rfl, Nat.le_of_ble_eq_true rfl⟩, (hts _ (xm w_1007)), (hts _ (xm wp_46))⟩) (qc := (R_M, F_M, 14)) rfl rfl h3 rfl hl.1 rfl (Nat.le_of_ble_eq_true rfl) d_M_siftInput_18 (fun H locs hw => ?_)
          refine W.eq (g2 := F0 m 21 ls []) rfl ?_
          refine lv_aload_n hx hb d_M_siftInput_21 rfl (lv_at hl 0 rfl) ?_
          refine xr_cV (As := []) (rest := []) ⟨hx, hb, hml, hown, hts⟩ hw hM4 hle_u_10 (fun _ _ => ⟨callB_of 0 hts (xgood w_983) rfl rfl rfl (hts _ (xm w_8)) (hts _ (xm w_980)) ⟨by decide, by decide, by decide +kernel⟩ ⟨Nat.le_of_ble_eq_true rfl, Nat.le_of_ble_eq_true rfl⟩, (hts _ (xm w_982)), (hts _ (xm wp_42))⟩) (qc := (R_M, F_M, 14)) rfl rfl h5 rfl hl.1 rfl (Nat.le_of_ble_eq_true rfl) d_M_siftInput_22 (fun H locs hw => ?_)
          refine W.eq (g2 := F0 m 25 ls [.int r_11]) rfl ?_
          refine lv_istore (lv' := [(5, .int r_11), (0, .ref x0), (1, .int x1), (2, .int x2), (3, .int x3), (4, .int x4)]) hx hb d_M_siftInput_25 hl (by decide) rfl (fun ls hl => ?_)
          refine lv_iload_n hx hb d_M_siftInput_27 rfl (lv_at hl 3 rfl) ?_
          refine lv_if_lt (tgt := 37) hx hb d_M_siftInput_28 (by decide) (fun c9 => absurd c9 hc6) (fun _ => ?_)
          refine lv_iload hx hb d_M_siftInput_31 (lv_at hl 0 rfl) ?_
          refine lv_iload_n hx hb d_M_siftInput_33 rfl (lv_at hl 4 rfl) ?_
          refine lv_icmp_ge (tgt := 42) hx hb d_M_siftInput_34 (by decide) (fun c9 => absurd c9 hc7) (fun _ => ?_)
          exact w9 p e s m args below meth c A H locs ls F hw (lv_sub hl [1, 2, 4, 5, 0] rfl)
set_option maxRecDepth 100000 in
set_option maxHeartbeats 4000000 in
theorem t_M_siftInput_J63 (l : Launch) (Z : XZ) (u0 : PS) {K : Int32 → PS → Prop} (x0 : Nat) (x1 : Int32) (x2 : Int32) (u : PS) (k : (p_M_siftInput_J63 K x0 x1 x2 u)) : XN l Z i_M_siftInput u0 (kI K) u 63 [(0, .ref x0), (1, .int x1), (2, .int x2)] [] := by
  unfold p_M_siftInput_J63 at k
  obtain ⟨h2, k⟩ := k
  obtain ⟨_, u_12, ⟨rfl, k⟩, hM1⟩ := c_M_moveTo l Z x0 x1 x2 u _ k
  have hle_u_12 : x_le u_12 u_12 := x_le.rf u_12
  have hle_u : x_le u u_12 := (hM1.1).tr hle_u_12
  refine ⟨some (.int x2), u_12, ⟨x2, rfl, k⟩, hle_u, ?_⟩
  intro p e s m args below meth c A H locs ls F hw hl
  obtain ⟨⟨hx, hb, hml, hown, hts⟩, hr, hlocks, hmn⟩ := id F
  refine lv_aload_n hx hb d_M_siftInput_63 rfl (lv_at hl 0 rfl) ?_
  refine lv_iload_n hx hb d_M_siftInput_64 rfl (lv_at hl 1 rfl) ?_
  refine lv_iload_n hx hb d_M_siftInput_65 rfl (lv_at hl 2 rfl) ?_
  refine xr_cV (As := [.int x1, .int x2]) (rest := []) ⟨hx, hb, hml, hown, hts⟩ hw hM1 hle_u_12 (fun _ _ => ⟨callB_of 2 hts (xgood w_1008) rfl rfl rfl (hts _ (xm w_8)) (hts _ (xm w_1005)) ⟨by decide, by decide, by decide +kernel⟩ ⟨Nat.le_of_ble_eq_true rfl, Nat.le_of_ble_eq_true rfl⟩, (hts _ (xm w_1007)), (hts _ (xm wp_46))⟩) (qc := (R_M, F_M, 14)) rfl rfl h2 rfl hl.1 rfl (Nat.le_of_ble_eq_true rfl) d_M_siftInput_66 (fun H locs hw => ?_)
  refine W.eq (g2 := F0 m 69 ls []) rfl ?_
  refine lv_iload_n hx hb d_M_siftInput_69 rfl (lv_at hl 2 rfl) ?_
  exact xr_iret F rfl hw d_M_siftInput_70
set_option maxRecDepth 100000 in
set_option maxHeartbeats 4000000 in
theorem c_M_siftInput (l : Launch) (Z : XZ) (x0 : Nat) (x1 : Int32) (u : PS) (K : Int32 → PS → Prop) (k : p_M_siftInput x0 x1 u K) : ∃ (rv : Option Value) (u1 : PS), (kI K) rv u1 ∧ XMet l Z i_M_siftInput [.ref x0, .int x1] u rv u1 := by
  refine x_met (by decide) rfl (Nat.le_of_ble_eq_true rfl) ?_
  show XN l Z i_M_siftInput u (kI K) u 0 [(0, .ref x0), (1, .int x1)] []
  unfold p_M_siftInput at k
  obtain ⟨n1, k⟩ := k
  have hx4 : ∀ (y2_2 : Int32) (v3 : PS), (p_M_siftInput_J63 K x0 x1 y2_2 v3) → XN l Z i_M_siftInput u (kI K) v3 63 [(0, .ref x0), (1, .int x1), (2, .int y2_2)] [] := by
    intro y2_2 v3 k
    obtain ⟨rv, v9, hK, hle_v3, w9⟩ := t_M_siftInput_J63 l Z u x0 x1 y2_2 v3 k
    refine ⟨rv, v9, hK, hle_v3, ?_⟩
    intro p e s m args below meth c A H locs ls F hw hl
    obtain ⟨⟨hx, hb, hml, hown, hts⟩, hr, hlocks, hmn⟩ := id F
    exact w9 p e s m args below meth c A H locs ls F hw (lv_sub hl [0, 1, 2] rfl)
  obtain ⟨rv, v9, hK, hle_u, w9⟩ := t_M_siftInput_L7 l Z u x0 x1 hx4 n1 (-1 : Int32) (0 : Int32) (0 : Int32) u k
  refine ⟨rv, v9, hK, hle_u, ?_⟩
  intro p e s m args below meth c A H locs ls F hw hl
  obtain ⟨⟨hx, hb, hml, hown, hts⟩, hr, hlocks, hmn⟩ := id F
  refine lv_iconst (v := (-1)) hx hb d_M_siftInput_0 (by decide) ?_
  refine lv_istore_n (lv' := [(2, .int (-1)), (0, .ref x0), (1, .int x1)]) hx hb d_M_siftInput_1 rfl hl (by decide) rfl (fun ls hl => ?_)
  refine lv_iconst (v := 0) hx hb d_M_siftInput_2 (by decide) ?_
  refine lv_istore_n (lv' := [(3, .int 0), (2, .int (-1)), (0, .ref x0), (1, .int x1)]) hx hb d_M_siftInput_3 rfl hl (by decide) rfl (fun ls hl => ?_)
  refine lv_iconst (v := 0) hx hb d_M_siftInput_4 (by decide) ?_
  refine lv_istore (lv' := [(4, .int 0), (3, .int 0), (2, .int (-1)), (0, .ref x0), (1, .int x1)]) hx hb d_M_siftInput_5 hl (by decide) rfl (fun ls hl => ?_)
  exact w9 p e s m args below meth c A H locs ls F hw (lv_sub hl [3, 4, 2, 1, 0] rfl)
set_option maxRecDepth 100000 in
set_option maxHeartbeats 4000000 in
theorem t_M_sift_J13 (l : Launch) (Z : XZ) (u0 : PS) {K : Int32 → PS → Prop} (x0 : Nat) (x1 : Int32) (s0 : Nat) (s1 : Int32) (u : PS) (k : (p_M_sift_J13 K x0 x1 s0 s1 u)) : XN l Z i_M_sift u0 (kI K) u 13 [(0, .ref x0), (1, .int x1)] [.int s1, .ref s0] := by
  unfold p_M_sift_J13 at k
  obtain ⟨h2, k⟩ := k
  obtain ⟨_, u_9, ⟨r_10, rfl, k⟩, hM1⟩ := c_M_refuse l Z s0 s1 (0 : Int32) u _ k
  by_cases hc3 : r_10 = 0
  · have k := k.1 hc3
    obtain ⟨h5, k⟩ := k
    obtain ⟨_, u_11, ⟨r_12, rfl, k⟩, hM4⟩ := c_M_siftInput l Z x0 x1 u_9 _ k
    have hle_u_11 : x_le u_11 u_11 := x_le.rf u_11
    have hle_u_9 : x_le u_9 u_11 := (hM4.1).tr hle_u_11
    have hle_u : x_le u u_11 := (hM1.1).tr hle_u_9
    refine ⟨some (.int r_12), u_11, ⟨r_12, rfl, k⟩, hle_u, ?_⟩
    intro p e s m args below meth c A H locs ls F hw hl
    obtain ⟨⟨hx, hb, hml, hown, hts⟩, hr, hlocks, hmn⟩ := id F
    refine lv_iconst (v := 0) hx hb d_M_sift_13 (by decide) ?_
    refine xr_cV (As := [.int s1, .int 0]) (rest := []) ⟨hx, hb, hml, hown, hts⟩ hw hM1 hle_u_9 (fun _ _ => ⟨callB_of 2 hts (xgood w_929) rfl rfl rfl (hts _ (xm w_8)) (hts _ (xm w_926)) ⟨by decide, by decide, by decide +kernel⟩ ⟨Nat.le_of_ble_eq_true rfl, Nat.le_of_ble_eq_true rfl⟩, (hts _ (xm w_928)), (hts _ (xm wp_38))⟩) (qc := (R_M, F_M, 14)) rfl rfl h2 rfl hl.1 rfl (Nat.le_of_ble_eq_true rfl) d_M_sift_14 (fun H locs hw => ?_)
    refine W.eq (g2 := F0 m 17 ls [.int r_10]) rfl ?_
    refine lv_if_eq (tgt := 24) hx hb d_M_sift_17 (by decide) (fun _ => ?_) (fun c9 => absurd hc3 c9)
    refine lv_aload_n hx hb d_M_sift_24 rfl (lv_at hl 0 rfl) ?_
    refine lv_iload_n hx hb d_M_sift_25 rfl (lv_at hl 1 rfl) ?_
    refine xr_cV (As := [.int x1]) (rest := []) ⟨hx, hb, hml, hown, hts⟩ hw hM4 hle_u_11 (fun _ _ => ⟨callB_of 1 hts (xgood w_1020) rfl rfl rfl (hts _ (xm w_8)) (hts _ (xm w_1017)) ⟨by decide, by decide, by decide +kernel⟩ ⟨Nat.le_of_ble_eq_true rfl, Nat.le_of_ble_eq_true rfl⟩, (hts _ (xm w_1019)), (hts _ (xm wp_48))⟩) (qc := (R_M, F_M, 14)) rfl rfl h5 rfl hl.1 rfl (Nat.le_of_ble_eq_true rfl) d_M_sift_26 (fun H locs hw => ?_)
    refine W.eq (g2 := F0 m 29 ls [.int r_12]) rfl ?_
    exact xr_iret F rfl hw d_M_sift_29
  · have k := k.2 hc3
    have hle_u_9 : x_le u_9 u_9 := x_le.rf u_9
    have hle_u : x_le u u_9 := (hM1.1).tr hle_u_9
    refine ⟨some (.int 0), u_9, ⟨(0 : Int32), rfl, k⟩, hle_u, ?_⟩
    intro p e s m args below meth c A H locs ls F hw hl
    obtain ⟨⟨hx, hb, hml, hown, hts⟩, hr, hlocks, hmn⟩ := id F
    refine lv_iconst (v := 0) hx hb d_M_sift_13 (by decide) ?_
    refine xr_cV (As := [.int s1, .int 0]) (rest := []) ⟨hx, hb, hml, hown, hts⟩ hw hM1 hle_u_9 (fun _ _ => ⟨callB_of 2 hts (xgood w_929) rfl rfl rfl (hts _ (xm w_8)) (hts _ (xm w_926)) ⟨by decide, by decide, by decide +kernel⟩ ⟨Nat.le_of_ble_eq_true rfl, Nat.le_of_ble_eq_true rfl⟩, (hts _ (xm w_928)), (hts _ (xm wp_38))⟩) (qc := (R_M, F_M, 14)) rfl rfl h2 rfl hl.1 rfl (Nat.le_of_ble_eq_true rfl) d_M_sift_14 (fun H locs hw => ?_)
    refine W.eq (g2 := F0 m 17 ls [.int r_10]) rfl ?_
    refine lv_if_eq (tgt := 24) hx hb d_M_sift_17 (by decide) (fun c9 => absurd c9 hc3) (fun _ => ?_)
    refine lv_iconst (v := 0) hx hb d_M_sift_20 (by decide) ?_
    refine lv_goto (tgt := 29) hx hb d_M_sift_21 (by decide) ?_
    exact xr_iret F rfl hw d_M_sift_29
set_option maxRecDepth 100000 in
set_option maxHeartbeats 4000000 in
theorem c_M_sift (l : Launch) (Z : XZ) (x0 : Nat) (x1 : Int32) (u : PS) (K : Int32 → PS → Prop) (k : p_M_sift x0 x1 u K) : ∃ (rv : Option Value) (u1 : PS), (kI K) rv u1 ∧ XMet l Z i_M_sift [.ref x0, .int x1] u rv u1 := by
  refine x_met (by decide) rfl (Nat.le_of_ble_eq_true rfl) ?_
  show XN l Z i_M_sift u (kI K) u 0 [(0, .ref x0), (1, .int x1)] []
  unfold p_M_sift at k
  obtain ⟨_, u_7, ⟨r_8, rfl, k⟩, hM1⟩ := c_M_isInput l Z x1 u _ k
  by_cases hc2 : r_8 = 0
  · have k := k.2 hc2
    obtain ⟨rv, v9, hK, hle_u_7, w9⟩ := t_M_sift_J13 l Z u x0 x1 x0 (1 : Int32) u_7 k
    have hle_u : x_le u v9 := (hM1.1).tr hle_u_7
    refine ⟨rv, v9, hK, hle_u, ?_⟩
    intro p e s m args below meth c A H locs ls F hw hl
    obtain ⟨⟨hx, hb, hml, hown, hts⟩, hr, hlocks, hmn⟩ := id F
    refine lv_aload_n hx hb d_M_sift_0 rfl (lv_at hl 0 rfl) ?_
    refine lv_iload_n hx hb d_M_sift_1 rfl (lv_at hl 1 rfl) ?_
    refine xr_cS (As := [.int x1]) (rest := [.ref x0]) ⟨hx, hb, hml, hown, hts⟩ hw hM1 hle_u_7 (fun _ _ => ⟨callB_of 1 hts (xgood w_936) rfl rfl rfl (hts _ (xm w_8)) (hts _ (xm w_934)) ⟨by decide, by decide, by decide +kernel⟩ ⟨Nat.le_of_ble_eq_true rfl, Nat.le_of_ble_eq_true rfl⟩, (hts _ (xm w_935))⟩) rfl hl.1 rfl (Nat.le_of_ble_eq_true rfl) d_M_sift_2 (fun H locs hw => ?_)
    refine W.eq (g2 := F0 m 5 ls [.int r_8, .ref x0]) rfl ?_
    refine lv_if_ne (tgt := 12) hx hb d_M_sift_5 (by decide) (fun c9 => absurd hc2 c9) (fun _ => ?_)
    refine lv_iconst (v := 1) hx hb d_M_sift_8 (by decide) ?_
    refine lv_goto (tgt := 13) hx hb d_M_sift_9 (by decide) ?_
    exact w9 p e s m args below meth c A H locs ls F hw (lv_sub hl [0, 1] rfl)
  · have k := k.1 hc2
    obtain ⟨rv, v9, hK, hle_u_7, w9⟩ := t_M_sift_J13 l Z u x0 x1 x0 (0 : Int32) u_7 k
    have hle_u : x_le u v9 := (hM1.1).tr hle_u_7
    refine ⟨rv, v9, hK, hle_u, ?_⟩
    intro p e s m args below meth c A H locs ls F hw hl
    obtain ⟨⟨hx, hb, hml, hown, hts⟩, hr, hlocks, hmn⟩ := id F
    refine lv_aload_n hx hb d_M_sift_0 rfl (lv_at hl 0 rfl) ?_
    refine lv_iload_n hx hb d_M_sift_1 rfl (lv_at hl 1 rfl) ?_
    refine xr_cS (As := [.int x1]) (rest := [.ref x0]) ⟨hx, hb, hml, hown, hts⟩ hw hM1 hle_u_7 (fun _ _ => ⟨callB_of 1 hts (xgood w_936) rfl rfl rfl (hts _ (xm w_8)) (hts _ (xm w_934)) ⟨by decide, by decide, by decide +kernel⟩ ⟨Nat.le_of_ble_eq_true rfl, Nat.le_of_ble_eq_true rfl⟩, (hts _ (xm w_935))⟩) rfl hl.1 rfl (Nat.le_of_ble_eq_true rfl) d_M_sift_2 (fun H locs hw => ?_)
    refine W.eq (g2 := F0 m 5 ls [.int r_8, .ref x0]) rfl ?_
    refine lv_if_ne (tgt := 12) hx hb d_M_sift_5 (by decide) (fun _ => ?_) (fun c9 => absurd c9 hc2)
    refine lv_iconst (v := 0) hx hb d_M_sift_12 (by decide) ?_
    exact w9 p e s m args below meth c A H locs ls F hw (lv_sub hl [0, 1] rfl)
set_option maxRecDepth 100000 in
set_option maxHeartbeats 4000000 in
theorem t_M_siftAll_L12 (l : Launch) (Z : XZ) (u0 : PS) {Kv : Option Value → PS → Prop} {E43 : PS → Prop} (x0 : Nat) (hE43 : ∀ (v : PS), E43 v → XN l Z i_M_siftAll u0 Kv v 43 [(0, .ref x0)] []) : ∀ (n : Nat) (x1 : Int32) (u : PS), p_M_siftAll_L12 x0 E43 n x1 u → XN l Z i_M_siftAll u0 Kv u 12 [(0, .ref x0), (1, .int x1)] [] := by
  intro n
  induction n with
  | zero => intro x1 u k; exact False.elim k
  | succ n ih =>
    intro x1 u k
    rw [p_M_siftAll_L12] at k
    by_cases hc1 : 10 ≤ x1
    · have k := k.1 hc1
      obtain ⟨rv, v9, hK, hle_u, w9⟩ := hE43 u k
      refine ⟨rv, v9, hK, hle_u, ?_⟩
      intro p e s m args below meth c A H locs ls F hw hl
      obtain ⟨⟨hx, hb, hml, hown, hts⟩, hr, hlocks, hmn⟩ := id F
      refine lv_iload_n hx hb d_M_siftAll_12 rfl (lv_at hl 1 rfl) ?_
      refine lv_bipush (v := 10) hx hb d_M_siftAll_13 (by decide) ?_
      refine lv_icmp_ge (tgt := 43) hx hb d_M_siftAll_15 (by decide) (fun _ => ?_) (fun c9 => absurd hc1 c9)
      exact w9 p e s m args below meth c A H locs ls F hw (lv_sub hl [0] rfl)
    · have k := k.2 hc1
      obtain ⟨z_35, h2, k⟩ := k
      obtain ⟨z_36, h3, k⟩ := k
      obtain ⟨z_37, h4, k⟩ := k
      obtain ⟨u_38, h5, k⟩ := k
      obtain ⟨z_39, h6, k⟩ := k
      obtain ⟨u_40, h7, k⟩ := k
      obtain ⟨y8, ey8⟩ : ∃ y9 : Int32, y9 = x1 + 1 := ⟨_, rfl⟩
      have k := k y8 ey8
      obtain ⟨rv, v9, hK, hle_u_40, w9⟩ := ih y8 u_40 k
      have hle_u_38 : x_le u_38 v9 := (h7.le).tr hle_u_40
      have hle_u : x_le u v9 := (h5.le).tr hle_u_38
      refine ⟨rv, v9, hK, hle_u, ?_⟩
      intro p e s m args below meth c A H locs ls F hw hl
      obtain ⟨⟨hx, hb, hml, hown, hts⟩, hr, hlocks, hmn⟩ := id F
      refine lv_iload_n hx hb d_M_siftAll_12 rfl (lv_at hl 1 rfl) ?_
      refine lv_bipush (v := 10) hx hb d_M_siftAll_13 (by decide) ?_
      refine lv_icmp_ge (tgt := 43) hx hb d_M_siftAll_15 (by decide) (fun c9 => absurd c9 hc1) (fun _ => ?_)
      refine lv_aload_n hx hb d_M_siftAll_18 rfl (lv_at hl 0 rfl) ?_
      refine xr_get hx hb hts (xmu uws_M) hown hw h2 rfl (by decide) (hts _ (xm w_880)) (fun _ h9 => h9) d_M_siftAll_19 ?_
      refine lv_iload_n hx hb d_M_siftAll_22 rfl (lv_at hl 1 rfl) ?_
      refine lv_aload_n hx hb d_M_siftAll_23 rfl (lv_at hl 0 rfl) ?_
      refine xr_get hx hb hts (xmu uws_M) hown hw h3 rfl (by decide) (hts _ (xm w_879)) (fun _ h9 => h9) d_M_siftAll_24 ?_
      refine lv_iload_n hx hb d_M_siftAll_27 rfl (lv_at hl 1 rfl) ?_
      refine xr_iald hx hb hw h4 d_M_siftAll_28 ?_
      refine xr_iast hx hb hw h5 d_M_siftAll_29 (fun H locs hw => ?_)
      refine lv_aload_n hx hb d_M_siftAll_30 rfl (lv_at hl 0 rfl) ?_
      refine xr_get hx hb hts (xmu uws_M) hown hw h6 rfl (by decide) (hts _ (xm w_881)) (fun _ h9 => h9) d_M_siftAll_31 ?_
      refine lv_iload_n hx hb d_M_siftAll_34 rfl (lv_at hl 1 rfl) ?_
      refine lv_iconst (v := 0) hx hb d_M_siftAll_35 (by decide) ?_
      refine xr_zast hx hb hw h7 d_M_siftAll_36 (fun H locs hw => ?_)
      refine lv_iinc (v := y8) (lv' := [(1, .int y8), (0, .ref x0)]) hx hb d_M_siftAll_37 hl (k := 1) rfl (by subst ey8; rfl) (by decide) rfl (fun ls hl => ?_)
      refine lv_goto (tgt := 12) hx hb d_M_siftAll_40 (by decide) ?_
      exact w9 p e s m args below meth c A H locs ls F hw (lv_sub hl [1, 0] rfl)
set_option maxRecDepth 100000 in
set_option maxHeartbeats 4000000 in
theorem t_M_siftAll_J93 (l : Launch) (Z : XZ) (u0 : PS) {Kv : Option Value → PS → Prop} {R : Int32 → Int32 → PS → Prop} {E100 : Int32 → PS → Prop} (x0 : Nat) (x1 : Int32) (x3 : Int32) (s0 : Int32) (u : PS) (hR : ∀ (y2 : Int32) (y3 : Int32) (v : PS), R y2 y3 v → XN l Z i_M_siftAll u0 Kv v 56 [(0, .ref x0), (1, .int x1), (2, .int y2), (3, .int y3)] []) (hE100 : ∀ (y2 : Int32) (v : PS), E100 y2 v → XN l Z i_M_siftAll u0 Kv v 100 [(0, .ref x0), (1, .int x1), (2, .int y2)] []) (k : (p_M_siftAll_J93 R E100 x0 x1 x3 s0 u)) : XN l Z i_M_siftAll u0 Kv u 93 [(0, .ref x0), (1, .int x1), (3, .int x3)] [.int s0] := by
  unfold p_M_siftAll_J93 at k
  obtain ⟨y1, ey1⟩ : ∃ y9 : Int32, y9 = x3 + (-1) := ⟨_, rfl⟩
  have k := k y1 ey1
  obtain ⟨rv, v9, hK, hle_u, w9⟩ := hR s0 y1 u k
  refine ⟨rv, v9, hK, hle_u, ?_⟩
  intro p e s m args below meth c A H locs ls F hw hl
  obtain ⟨⟨hx, hb, hml, hown, hts⟩, hr, hlocks, hmn⟩ := id F
  refine lv_istore_n (lv' := [(2, .int s0), (0, .ref x0), (1, .int x1), (3, .int x3)]) hx hb d_M_siftAll_93 rfl hl (by decide) rfl (fun ls hl => ?_)
  refine lv_iinc (v := y1) (lv' := [(3, .int y1), (2, .int s0), (0, .ref x0), (1, .int x1)]) hx hb d_M_siftAll_94 hl (k := 3) rfl (by subst ey1; rfl) (by decide) rfl (fun ls hl => ?_)
  refine lv_goto (tgt := 56) hx hb d_M_siftAll_97 (by decide) ?_
  exact w9 p e s m args below meth c A H locs ls F hw (lv_sub hl [2, 3, 1, 0] rfl)
set_option maxRecDepth 100000 in
set_option maxHeartbeats 4000000 in
theorem t_M_siftAll_J88 (l : Launch) (Z : XZ) (u0 : PS) {Kv : Option Value → PS → Prop} {R : Int32 → Int32 → PS → Prop} {E100 : Int32 → PS → Prop} (x0 : Nat) (x1 : Int32) (x3 : Int32) (u : PS) (hR : ∀ (y2 : Int32) (y3 : Int32) (v : PS), R y2 y3 v → XN l Z i_M_siftAll u0 Kv v 56 [(0, .ref x0), (1, .int x1), (2, .int y2), (3, .int y3)] []) (hE100 : ∀ (y2 : Int32) (v : PS), E100 y2 v → XN l Z i_M_siftAll u0 Kv v 100 [(0, .ref x0), (1, .int x1), (2, .int y2)] []) (k : (p_M_siftAll_J88 R E100 x0 x1 x3 u)) : XN l Z i_M_siftAll u0 Kv u 88 [(0, .ref x0), (1, .int x1), (3, .int x3)] [] := by
  unfold p_M_siftAll_J88 at k
  obtain ⟨rv, v9, hK, hle_u, w9⟩ := t_M_siftAll_J93 l Z u0 x0 x1 x3 x3 u hR hE100 k
  refine ⟨rv, v9, hK, hle_u, ?_⟩
  intro p e s m args below meth c A H locs ls F hw hl
  obtain ⟨⟨hx, hb, hml, hown, hts⟩, hr, hlocks, hmn⟩ := id F
  refine lv_iload_n hx hb d_M_siftAll_88 rfl (lv_at hl 2 rfl) ?_
  refine lv_goto (tgt := 93) hx hb d_M_siftAll_89 (by decide) ?_
  exact w9 p e s m args below meth c A H locs ls F hw (lv_sub hl [0, 1, 2] rfl)
set_option maxRecDepth 100000 in
set_option maxHeartbeats 4000000 in
theorem t_M_siftAll_J92 (l : Launch) (Z : XZ) (u0 : PS) {Kv : Option Value → PS → Prop} {R : Int32 → Int32 → PS → Prop} {E100 : Int32 → PS → Prop} (x0 : Nat) (x1 : Int32) (x2 : Int32) (x3 : Int32) (u : PS) (hR : ∀ (y2 : Int32) (y3 : Int32) (v : PS), R y2 y3 v → XN l Z i_M_siftAll u0 Kv v 56 [(0, .ref x0), (1, .int x1), (2, .int y2), (3, .int y3)] []) (hE100 : ∀ (y2 : Int32) (v : PS), E100 y2 v → XN l Z i_M_siftAll u0 Kv v 100 [(0, .ref x0), (1, .int x1), (2, .int y2)] []) (k : (p_M_siftAll_J92 R E100 x0 x1 x2 x3 u)) : XN l Z i_M_siftAll u0 Kv u 92 [(0, .ref x0), (1, .int x1), (2, .int x2), (3, .int x3)] [] := by
  unfold p_M_siftAll_J92 at k
  obtain ⟨rv, v9, hK, hle_u, w9⟩ := t_M_siftAll_J93 l Z u0 x0 x1 x3 x2 u hR hE100 k
  refine ⟨rv, v9, hK, hle_u, ?_⟩
  intro p e s m args below meth c A H locs ls F hw hl
  obtain ⟨⟨hx, hb, hml, hown, hts⟩, hr, hlocks, hmn⟩ := id F
  refine lv_iload_n hx hb d_M_siftAll_92 rfl (lv_at hl 2 rfl) ?_
  exact w9 p e s m args below meth c A H locs ls F hw (lv_sub hl [0, 1, 3] rfl)
set_option maxRecDepth 100000 in
set_option maxHeartbeats 4000000 in
theorem t_M_siftAll_L56 (l : Launch) (Z : XZ) (u0 : PS) {Kv : Option Value → PS → Prop} {E100 : Int32 → PS → Prop} (x0 : Nat) (x1 : Int32) (hE100 : ∀ (y2 : Int32) (v : PS), E100 y2 v → XN l Z i_M_siftAll u0 Kv v 100 [(0, .ref x0), (1, .int x1), (2, .int y2)] []) : ∀ (n : Nat) (x2 : Int32) (x3 : Int32) (u : PS), p_M_siftAll_L56 x0 x1 E100 n x2 x3 u → XN l Z i_M_siftAll u0 Kv u 56 [(0, .ref x0), (1, .int x1), (2, .int x2), (3, .int x3)] [] := by
  intro n
  induction n with
  | zero => intro x2 x3 u k; exact False.elim k
  | succ n ih =>
    intro x2 x3 u k
    rw [p_M_siftAll_L56] at k
    by_cases hc1 : x3 < 0
    · have k := k.1 hc1
      obtain ⟨rv, v9, hK, hle_u, w9⟩ := hE100 x2 u k
      refine ⟨rv, v9, hK, hle_u, ?_⟩
      intro p e s m args below meth c A H locs ls F hw hl
      obtain ⟨⟨hx, hb, hml, hown, hts⟩, hr, hlocks, hmn⟩ := id F
      refine lv_iload_n hx hb d_M_siftAll_56 rfl (lv_at hl 3 rfl) ?_
      refine lv_if_lt (tgt := 100) hx hb d_M_siftAll_57 (by decide) (fun _ => ?_) (fun c9 => absurd hc1 c9)
      exact w9 p e s m args below meth c A H locs ls F hw (lv_sub hl [0, 1, 2] rfl)
    · have k := k.2 hc1
      obtain ⟨z_41, h2, k⟩ := k
      obtain ⟨z_42, h3, k⟩ := k
      by_cases hc4 : z_42 = 0
      · have k := k.2 hc4
        by_cases hc5 : x2 < 0
        · have k := k.1 hc5
          obtain ⟨rv, v9, hK, hle_u, w9⟩ := t_M_siftAll_J88 l Z u0 x0 x1 x3 u ih hE100 k
          refine ⟨rv, v9, hK, hle_u, ?_⟩
          intro p e s m args below meth c A H locs ls F hw hl
          obtain ⟨⟨hx, hb, hml, hown, hts⟩, hr, hlocks, hmn⟩ := id F
          refine lv_iload_n hx hb d_M_siftAll_56 rfl (lv_at hl 3 rfl) ?_
          refine lv_if_lt (tgt := 100) hx hb d_M_siftAll_57 (by decide) (fun c9 => absurd c9 hc1) (fun _ => ?_)
          refine lv_aload_n hx hb d_M_siftAll_60 rfl (lv_at hl 0 rfl) ?_
          refine xr_get hx hb hts (xmu uws_M) hown hw h2 rfl (by decide) (hts _ (xm w_881)) (fun _ h9 => h9) d_M_siftAll_61 ?_
          refine lv_iload_n hx hb d_M_siftAll_64 rfl (lv_at hl 3 rfl) ?_
          refine xr_zald hx hb hw h3 d_M_siftAll_65 ?_
          refine lv_if_ne (tgt := 92) hx hb d_M_siftAll_66 (by decide) (fun c9 => absurd hc4 c9) (fun _ => ?_)
          refine lv_iload_n hx hb d_M_siftAll_69 rfl (lv_at hl 2 rfl) ?_
          refine lv_if_lt (tgt := 88) hx hb d_M_siftAll_70 (by decide) (fun _ => ?_) (fun c9 => absurd hc5 c9)
          exact w9 p e s m args below meth c A H locs ls F hw (lv_sub hl [0, 1, 3] rfl)
        · have k := k.2 hc5
          obtain ⟨z_43, h6, k⟩ := k
          obtain ⟨z_44, h7, k⟩ := k
          obtain ⟨z_45, h8, k⟩ := k
          obtain ⟨z_46, h9, k⟩ := k
          by_cases hc10 : z_44 < z_46
          · have k := k.1 hc10
            obtain ⟨rv, v9, hK, hle_u, w9⟩ := t_M_siftAll_J92 l Z u0 x0 x1 x2 x3 u ih hE100 k
            refine ⟨rv, v9, hK, hle_u, ?_⟩
            intro p e s m args below meth c A H locs ls F hw hl
            obtain ⟨⟨hx, hb, hml, hown, hts⟩, hr, hlocks, hmn⟩ := id F
            refine lv_iload_n hx hb d_M_siftAll_56 rfl (lv_at hl 3 rfl) ?_
            refine lv_if_lt (tgt := 100) hx hb d_M_siftAll_57 (by decide) (fun c9 => absurd c9 hc1) (fun _ => ?_)
            refine lv_aload_n hx hb d_M_siftAll_60 rfl (lv_at hl 0 rfl) ?_
            refine xr_get hx hb hts (xmu uws_M) hown hw h2 rfl (by decide) (hts _ (xm w_881)) (fun _ h9 => h9) d_M_siftAll_61 ?_
            refine lv_iload_n hx hb d_M_siftAll_64 rfl (lv_at hl 3 rfl) ?_
            refine xr_zald hx hb hw h3 d_M_siftAll_65 ?_
            refine lv_if_ne (tgt := 92) hx hb d_M_siftAll_66 (by decide) (fun c9 => absurd hc4 c9) (fun _ => ?_)
            refine lv_iload_n hx hb d_M_siftAll_69 rfl (lv_at hl 2 rfl) ?_
            refine lv_if_lt (tgt := 88) hx hb d_M_siftAll_70 (by decide) (fun c9 => absurd c9 hc5) (fun _ => ?_)
            refine lv_aload_n hx hb d_M_siftAll_73 rfl (lv_at hl 0 rfl) ?_
            refine xr_get hx hb hts (xmu uws_M) hown hw h6 rfl (by decide) (hts _ (xm w_880)) (fun _ h9 => h9) d_M_siftAll_74 ?_
            refine lv_iload_n hx hb d_M_siftAll_77 rfl (lv_at hl 3 rfl) ?_
            refine xr_iald hx hb hw h7 d_M_siftAll_78 ?_
            refine lv_aload_n hx hb d_M_siftAll_79 rfl (lv_at hl 0 rfl) ?_
            refine xr_get hx hb hts (xmu uws_M) hown hw h8 rfl (by decide) (hts _ (xm w_880)) (fun _ h9 => h9) d_M_siftAll_80 ?_
            refine lv_iload_n hx hb d_M_siftAll_83 rfl (lv_at hl 2 rfl) ?_
            refine xr_iald hx hb hw h9 d_M_siftAll_84 ?_
            refine lv_icmp_lt (tgt := 92) hx hb d_M_siftAll_85 (by decide) (fun _ => ?_) (fun c9 => absurd hc10 c9)
            exact w9 p e s m args below meth c A H locs ls F hw (lv_sub hl [0, 1, 2, 3] rfl)
          · have k := k.2 hc10
            obtain ⟨rv, v9, hK, hle_u, w9⟩ := t_M_siftAll_J88 l Z u0 x0 x1 x3 u ih hE100 k
            refine ⟨rv, v9, hK, hle_u, ?_⟩
            intro p e s m args below meth c A H locs ls F hw hl
            obtain ⟨⟨hx, hb, hml, hown, hts⟩, hr, hlocks, hmn⟩ := id F
            refine lv_iload_n hx hb d_M_siftAll_56 rfl (lv_at hl 3 rfl) ?_
            refine lv_if_lt (tgt := 100) hx hb d_M_siftAll_57 (by decide) (fun c9 => absurd c9 hc1) (fun _ => ?_)
            refine lv_aload_n hx hb d_M_siftAll_60 rfl (lv_at hl 0 rfl) ?_
            refine xr_get hx hb hts (xmu uws_M) hown hw h2 rfl (by decide) (hts _ (xm w_881)) (fun _ h9 => h9) d_M_siftAll_61 ?_
            refine lv_iload_n hx hb d_M_siftAll_64 rfl (lv_at hl 3 rfl) ?_
            refine xr_zald hx hb hw h3 d_M_siftAll_65 ?_
            refine lv_if_ne (tgt := 92) hx hb d_M_siftAll_66 (by decide) (fun c9 => absurd hc4 c9) (fun _ => ?_)
            refine lv_iload_n hx hb d_M_siftAll_69 rfl (lv_at hl 2 rfl) ?_
            refine lv_if_lt (tgt := 88) hx hb d_M_siftAll_70 (by decide) (fun c9 => absurd c9 hc5) (fun _ => ?_)
            refine lv_aload_n hx hb d_M_siftAll_73 rfl (lv_at hl 0 rfl) ?_
            refine xr_get hx hb hts (xmu uws_M) hown hw h6 rfl (by decide) (hts _ (xm w_880)) (fun _ h9 => h9) d_M_siftAll_74 ?_
            refine lv_iload_n hx hb d_M_siftAll_77 rfl (lv_at hl 3 rfl) ?_
            refine xr_iald hx hb hw h7 d_M_siftAll_78 ?_
            refine lv_aload_n hx hb d_M_siftAll_79 rfl (lv_at hl 0 rfl) ?_
            refine xr_get hx hb hts (xmu uws_M) hown hw h8 rfl (by decide) (hts _ (xm w_880)) (fun _ h9 => h9) d_M_siftAll_80 ?_
            refine lv_iload_n hx hb d_M_siftAll_83 rfl (lv_at hl 2 rfl) ?_
            refine xr_iald hx hb hw h9 d_M_siftAll_84 ?_
            refine lv_icmp_lt (tgt := 92) hx hb d_M_siftAll_85 (by decide) (fun c9 => absurd c9 hc10) (fun _ => ?_)
            exact w9 p e s m args below meth c A H locs ls F hw (lv_sub hl [0, 1, 3] rfl)
      · have k := k.1 hc4
        obtain ⟨rv, v9, hK, hle_u, w9⟩ := t_M_siftAll_J92 l Z u0 x0 x1 x2 x3 u ih hE100 k
        refine ⟨rv, v9, hK, hle_u, ?_⟩
        intro p e s m args below meth c A H locs ls F hw hl
        obtain ⟨⟨hx, hb, hml, hown, hts⟩, hr, hlocks, hmn⟩ := id F
        refine lv_iload_n hx hb d_M_siftAll_56 rfl (lv_at hl 3 rfl) ?_
        refine lv_if_lt (tgt := 100) hx hb d_M_siftAll_57 (by decide) (fun c9 => absurd c9 hc1) (fun _ => ?_)
        refine lv_aload_n hx hb d_M_siftAll_60 rfl (lv_at hl 0 rfl) ?_
        refine xr_get hx hb hts (xmu uws_M) hown hw h2 rfl (by decide) (hts _ (xm w_881)) (fun _ h9 => h9) d_M_siftAll_61 ?_
        refine lv_iload_n hx hb d_M_siftAll_64 rfl (lv_at hl 3 rfl) ?_
        refine xr_zald hx hb hw h3 d_M_siftAll_65 ?_
        refine lv_if_ne (tgt := 92) hx hb d_M_siftAll_66 (by decide) (fun _ => ?_) (fun c9 => absurd c9 hc4)
        exact w9 p e s m args below meth c A H locs ls F hw (lv_sub hl [0, 1, 2, 3] rfl)
set_option maxRecDepth 100000 in
set_option maxHeartbeats 4000000 in
theorem t_M_siftAll_J100 (l : Launch) (Z : XZ) (u0 : PS) {Kv : Option Value → PS → Prop} {R : Int32 → PS → Prop} {E119 : PS → Prop} (x0 : Nat) (x1 : Int32) (x2 : Int32) (u : PS) (hR : ∀ (y1 : Int32) (v : PS), R y1 v → XN l Z i_M_siftAll u0 Kv v 45 [(0, .ref x0), (1, .int y1)] []) (hE119 : ∀ (v : PS), E119 v → XN l Z i_M_siftAll u0 Kv v 119 [(0, .ref x0)] []) (k : (p_M_siftAll_J100 R E119 x0 x1 x2 u)) : XN l Z i_M_siftAll u0 Kv u 100 [(0, .ref x0), (1, .int x1), (2, .int x2)] [] := by
  unfold p_M_siftAll_J100 at k
  obtain ⟨z_47, h1, k⟩ := k
  obtain ⟨u_48, h2, k⟩ := k
  obtain ⟨h4, k⟩ := k
  obtain ⟨_, u_49, ⟨r_50, rfl, k⟩, hM3⟩ := c_M_siftInput l Z x0 x2 u_48 _ k
  obtain ⟨y5, ey5⟩ : ∃ y9 : Int32, y9 = x1 + 1 := ⟨_, rfl⟩
  have k := k y5 ey5
  obtain ⟨rv, v9, hK, hle_u_49, w9⟩ := hR y5 u_49 k
  have hle_u_48 : x_le u_48 v9 := (hM3.1).tr hle_u_49
  have hle_u : x_le u v9 := (h2.le).tr hle_u_48
  refine ⟨rv, v9, hK, hle_u, ?_⟩
  intro p e s m args below meth c A H locs ls F hw hl
  obtain ⟨⟨hx, hb, hml, hown, hts⟩, hr, hlocks, hmn⟩ := id F
  refine lv_aload_n hx hb d_M_siftAll_100 rfl (lv_at hl 0 rfl) ?_
  refine xr_get hx hb hts (xmu uws_M) hown hw h1 rfl (by decide) (hts _ (xm w_881)) (fun _ h9 => h9) d_M_siftAll_101 ?_
  refine lv_iload_n hx hb d_M_siftAll_104 rfl (lv_at hl 2 rfl) ?_
  refine lv_iconst (v := 1) hx hb d_M_siftAll_105 (by decide) ?_
  refine xr_zast hx hb hw h2 d_M_siftAll_106 (fun H locs hw => ?_)
  refine lv_aload_n hx hb d_M_siftAll_107 rfl (lv_at hl 0 rfl) ?_
  refine lv_iload_n hx hb d_M_siftAll_108 rfl (lv_at hl 2 rfl) ?_
  refine xr_cV (As := [.int x2]) (rest := []) ⟨hx, hb, hml, hown, hts⟩ hw hM3 hle_u_49 (fun _ _ => ⟨callB_of 1 hts (xgood w_1020) rfl rfl rfl (hts _ (xm w_8)) (hts _ (xm w_1017)) ⟨by decide, by decide, by decide +kernel⟩ ⟨Nat.le_of_ble_eq_true rfl, Nat.le_of_ble_eq_true rfl⟩, (hts _ (xm w_1019)), (hts _ (xm wp_48))⟩) (qc := (R_M, F_M, 14)) rfl rfl h4 rfl hl.1 rfl (Nat.le_of_ble_eq_true rfl) d_M_siftAll_109 (fun H locs hw => ?_)
  refine W.eq (g2 := F0 m 112 ls [.int r_50]) rfl ?_
  refine lv_pop hx hb d_M_siftAll_112 rfl ?_
  refine lv_iinc (v := y5) (lv' := [(1, .int y5), (0, .ref x0), (2, .int x2)]) hx hb d_M_siftAll_113 hl (k := 1) rfl (by subst ey5; rfl) (by decide) rfl (fun ls hl => ?_)
  refine lv_goto (tgt := 45) hx hb d_M_siftAll_116 (by decide) ?_
  exact w9 p e s m args below meth c A H locs ls F hw (lv_sub hl [1, 0] rfl)
set_option maxRecDepth 100000 in
set_option maxHeartbeats 4000000 in
theorem t_M_siftAll_L45 (l : Launch) (Z : XZ) (u0 : PS) {Kv : Option Value → PS → Prop} {E119 : PS → Prop} (x0 : Nat) (hE119 : ∀ (v : PS), E119 v → XN l Z i_M_siftAll u0 Kv v 119 [(0, .ref x0)] []) : ∀ (n : Nat) (x1 : Int32) (u : PS), p_M_siftAll_L45 x0 E119 n x1 u → XN l Z i_M_siftAll u0 Kv u 45 [(0, .ref x0), (1, .int x1)] [] := by
  intro n
  induction n with
  | zero => intro x1 u k; exact False.elim k
  | succ n ih =>
    intro x1 u k
    rw [p_M_siftAll_L45] at k
    by_cases hc1 : 10 ≤ x1
    · have k := k.1 hc1
      obtain ⟨rv, v9, hK, hle_u, w9⟩ := hE119 u k
      refine ⟨rv, v9, hK, hle_u, ?_⟩
      intro p e s m args below meth c A H locs ls F hw hl
      obtain ⟨⟨hx, hb, hml, hown, hts⟩, hr, hlocks, hmn⟩ := id F
      refine lv_iload_n hx hb d_M_siftAll_45 rfl (lv_at hl 1 rfl) ?_
      refine lv_bipush (v := 10) hx hb d_M_siftAll_46 (by decide) ?_
      refine lv_icmp_ge (tgt := 119) hx hb d_M_siftAll_48 (by decide) (fun _ => ?_) (fun c9 => absurd hc1 c9)
      exact w9 p e s m args below meth c A H locs ls F hw (lv_sub hl [0] rfl)
    · have k := k.2 hc1
      obtain ⟨n2, k⟩ := k
      have hx5 : ∀ (y2_3 : Int32) (v4 : PS), (p_M_siftAll_J100 (p_M_siftAll_L45 x0 E119 n) E119 x0 x1 y2_3 v4) → XN l Z i_M_siftAll u0 Kv v4 100 [(0, .ref x0), (1, .int x1), (2, .int y2_3)] [] := by
        intro y2_3 v4 k
        obtain ⟨rv, v9, hK, hle_v4, w9⟩ := t_M_siftAll_J100 l Z u0 x0 x1 y2_3 v4 ih hE119 k
        refine ⟨rv, v9, hK, hle_v4, ?_⟩
        intro p e s m args below meth c A H locs ls F hw hl
        obtain ⟨⟨hx, hb, hml, hown, hts⟩, hr, hlocks, hmn⟩ := id F
        exact w9 p e s m args below meth c A H locs ls F hw (lv_sub hl [0, 1, 2] rfl)
      obtain ⟨rv, v9, hK, hle_u, w9⟩ := t_M_siftAll_L56 l Z u0 x0 x1 hx5 n2 (-1 : Int32) (9 : Int32) u k
      refine ⟨rv, v9, hK, hle_u, ?_⟩
      intro p e s m args below meth c A H locs ls F hw hl
      obtain ⟨⟨hx, hb, hml, hown, hts⟩, hr, hlocks, hmn⟩ := id F
      refine lv_iload_n hx hb d_M_siftAll_45 rfl (lv_at hl 1 rfl) ?_
      refine lv_bipush (v := 10) hx hb d_M_siftAll_46 (by decide) ?_
      refine lv_icmp_ge (tgt := 119) hx hb d_M_siftAll_48 (by decide) (fun c9 => absurd c9 hc1) (fun _ => ?_)
      refine lv_iconst (v := (-1)) hx hb d_M_siftAll_51 (by decide) ?_
      refine lv_istore_n (lv' := [(2, .int (-1)), (0, .ref x0), (1, .int x1)]) hx hb d_M_siftAll_52 rfl hl (by decide) rfl (fun ls hl => ?_)
      refine lv_bipush (v := 9) hx hb d_M_siftAll_53 (by decide) ?_
      refine lv_istore_n (lv' := [(3, .int 9), (2, .int (-1)), (0, .ref x0), (1, .int x1)]) hx hb d_M_siftAll_55 rfl hl (by decide) rfl (fun ls hl => ?_)
      exact w9 p e s m args below meth c A H locs ls F hw (lv_sub hl [2, 3, 1, 0] rfl)
set_option maxRecDepth 100000 in
set_option maxHeartbeats 4000000 in
theorem t_M_siftAll_J119 (l : Launch) (Z : XZ) (u0 : PS) {K : Int32 → PS → Prop} (x0 : Nat) (u : PS) (k : (p_M_siftAll_J119 K x0 u)) : XN l Z i_M_siftAll u0 (kI K) u 119 [(0, .ref x0)] [] := by
  unfold p_M_siftAll_J119 at k
  obtain ⟨h2, k⟩ := k
  obtain ⟨_, u_51, ⟨r_52, rfl, k⟩, hM1⟩ := c_M_whole l Z x0 u _ k
  have hle_u_51 : x_le u_51 u_51 := x_le.rf u_51
  have hle_u : x_le u u_51 := (hM1.1).tr hle_u_51
  refine ⟨some (.int r_52), u_51, ⟨r_52, rfl, k⟩, hle_u, ?_⟩
  intro p e s m args below meth c A H locs ls F hw hl
  obtain ⟨⟨hx, hb, hml, hown, hts⟩, hr, hlocks, hmn⟩ := id F
  refine lv_aload_n hx hb d_M_siftAll_119 rfl (lv_at hl 0 rfl) ?_
  refine xr_cV (As := []) (rest := []) ⟨hx, hb, hml, hown, hts⟩ hw hM1 hle_u_51 (fun _ _ => ⟨callB_of 0 hts (xgood w_983) rfl rfl rfl (hts _ (xm w_8)) (hts _ (xm w_980)) ⟨by decide, by decide, by decide +kernel⟩ ⟨Nat.le_of_ble_eq_true rfl, Nat.le_of_ble_eq_true rfl⟩, (hts _ (xm w_982)), (hts _ (xm wp_42))⟩) (qc := (R_M, F_M, 14)) rfl rfl h2 rfl hl.1 rfl (Nat.le_of_ble_eq_true rfl) d_M_siftAll_120 (fun H locs hw => ?_)
  refine W.eq (g2 := F0 m 123 ls [.int r_52]) rfl ?_
  exact xr_iret F rfl hw d_M_siftAll_123
set_option maxRecDepth 100000 in
set_option maxHeartbeats 4000000 in
theorem t_M_siftAll_J43 (l : Launch) (Z : XZ) (u0 : PS) {K : Int32 → PS → Prop} (x0 : Nat) (u : PS) (k : (p_M_siftAll_J43 K x0 u)) : XN l Z i_M_siftAll u0 (kI K) u 43 [(0, .ref x0)] [] := by
  unfold p_M_siftAll_J43 at k
  obtain ⟨n1, k⟩ := k
  have hx3 : ∀ (v2 : PS), (p_M_siftAll_J119 K x0 v2) → XN l Z i_M_siftAll u0 (kI K) v2 119 [(0, .ref x0)] [] := by
    intro v2 k
    obtain ⟨rv, v9, hK, hle_v2, w9⟩ := t_M_siftAll_J119 l Z u0 x0 v2 k
    refine ⟨rv, v9, hK, hle_v2, ?_⟩
    intro p e s m args below meth c A H locs ls F hw hl
    obtain ⟨⟨hx, hb, hml, hown, hts⟩, hr, hlocks, hmn⟩ := id F
    exact w9 p e s m args below meth c A H locs ls F hw (lv_sub hl [0] rfl)
  obtain ⟨rv, v9, hK, hle_u, w9⟩ := t_M_siftAll_L45 l Z u0 x0 hx3 n1 (0 : Int32) u k
  refine ⟨rv, v9, hK, hle_u, ?_⟩
  intro p e s m args below meth c A H locs ls F hw hl
  obtain ⟨⟨hx, hb, hml, hown, hts⟩, hr, hlocks, hmn⟩ := id F
  refine lv_iconst (v := 0) hx hb d_M_siftAll_43 (by decide) ?_
  refine lv_istore_n (lv' := [(1, .int 0), (0, .ref x0)]) hx hb d_M_siftAll_44 rfl hl (by decide) rfl (fun ls hl => ?_)
  exact w9 p e s m args below meth c A H locs ls F hw (lv_sub hl [1, 0] rfl)
set_option maxRecDepth 100000 in
set_option maxHeartbeats 4000000 in
theorem c_M_siftAll (l : Launch) (Z : XZ) (x0 : Nat) (u : PS) (K : Int32 → PS → Prop) (k : p_M_siftAll x0 u K) : ∃ (rv : Option Value) (u1 : PS), (kI K) rv u1 ∧ XMet l Z i_M_siftAll [.ref x0] u rv u1 := by
  refine x_met (by decide) rfl (Nat.le_of_ble_eq_true rfl) ?_
  show XN l Z i_M_siftAll u (kI K) u 0 [(0, .ref x0)] []
  unfold p_M_siftAll at k
  obtain ⟨u_32, h1, k⟩ := k
  obtain ⟨h3, k⟩ := k
  obtain ⟨_, u_33, ⟨r_34, rfl, k⟩, hM2⟩ := c_M_whole l Z x0 u_32 _ k
  obtain ⟨n4, k⟩ := k
  have hx6 : ∀ (v5 : PS), (p_M_siftAll_J43 K x0 v5) → XN l Z i_M_siftAll u (kI K) v5 43 [(0, .ref x0)] [] := by
    intro v5 k
    obtain ⟨rv, v9, hK, hle_v5, w9⟩ := t_M_siftAll_J43 l Z u x0 v5 k
    refine ⟨rv, v9, hK, hle_v5, ?_⟩
    intro p e s m args below meth c A H locs ls F hw hl
    obtain ⟨⟨hx, hb, hml, hown, hts⟩, hr, hlocks, hmn⟩ := id F
    exact w9 p e s m args below meth c A H locs ls F hw (lv_sub hl [0] rfl)
  obtain ⟨rv, v9, hK, hle_u_33, w9⟩ := t_M_siftAll_L12 l Z u x0 hx6 n4 (0 : Int32) u_33 k
  have hle_u_32 : x_le u_32 v9 := (hM2.1).tr hle_u_33
  have hle_u : x_le u v9 := (h1.le).tr hle_u_32
  refine ⟨rv, v9, hK, hle_u, ?_⟩
  intro p e s m args below meth c A H locs ls F hw hl
  obtain ⟨⟨hx, hb, hml, hown, hts⟩, hr, hlocks, hmn⟩ := id F
  refine lv_aload_n hx hb d_M_siftAll_0 rfl (lv_at hl 0 rfl) ?_
  refine lv_iconst (v := 0) hx hb d_M_siftAll_1 (by decide) ?_
  refine xr_put (ty := .int) hx hb hts (xmu uws_M) tyc_M tyc_M_ok nmc_M hown hw h1 rfl (by decide) (hts _ (xm w_868)) (fun _ h9 => h9) rfl (by decide +kernel) rfl rfl d_M_siftAll_2 (fun H locs hw => ?_)
  refine lv_aload_n hx hb d_M_siftAll_5 rfl (lv_at hl 0 rfl) ?_
  refine xr_cV (As := []) (rest := []) ⟨hx, hb, hml, hown, hts⟩ hw hM2 hle_u_33 (fun _ _ => ⟨callB_of 0 hts (xgood w_983) rfl rfl rfl (hts _ (xm w_8)) (hts _ (xm w_980)) ⟨by decide, by decide, by decide +kernel⟩ ⟨Nat.le_of_ble_eq_true rfl, Nat.le_of_ble_eq_true rfl⟩, (hts _ (xm w_982)), (hts _ (xm wp_42))⟩) (qc := (R_M, F_M, 14)) rfl rfl h3 rfl hl.1 rfl (Nat.le_of_ble_eq_true rfl) d_M_siftAll_6 (fun H locs hw => ?_)
  refine W.eq (g2 := F0 m 9 ls [.int r_34]) rfl ?_
  refine lv_pop hx hb d_M_siftAll_9 rfl ?_
  refine lv_iconst (v := 0) hx hb d_M_siftAll_10 (by decide) ?_
  refine lv_istore_n (lv' := [(1, .int 0), (0, .ref x0)]) hx hb d_M_siftAll_11 rfl hl (by decide) rfl (fun ls hl => ?_)
  exact w9 p e s m args below meth c A H locs ls F hw (lv_sub hl [1, 0] rfl)
set_option maxRecDepth 100000 in
set_option maxHeartbeats 4000000 in
theorem t_M_order_J13 (l : Launch) (Z : XZ) (u0 : PS) {K : Int32 → PS → Prop} (x0 : Nat) (x1 : Int32) (s0 : Nat) (s1 : Int32) (u : PS) (k : (p_M_order_J13 K x0 x1 s0 s1 u)) : XN l Z i_M_order u0 (kI K) u 13 [(0, .ref x0), (1, .int x1)] [.int s1, .ref s0] := by
  unfold p_M_order_J13 at k
  obtain ⟨h2, k⟩ := k
  obtain ⟨_, u_9, ⟨r_10, rfl, k⟩, hM1⟩ := c_M_refuse l Z s0 s1 (0 : Int32) u _ k
  by_cases hc3 : r_10 = 0
  · have k := k.1 hc3
    obtain ⟨z_11, h4, k⟩ := k
    obtain ⟨z_12, h5, k⟩ := k
    have hle_u_9 : x_le u_9 u_9 := x_le.rf u_9
    have hle_u : x_le u u_9 := (hM1.1).tr hle_u_9
    refine ⟨some (.int z_12), u_9, ⟨z_12, rfl, k⟩, hle_u, ?_⟩
    intro p e s m args below meth c A H locs ls F hw hl
    obtain ⟨⟨hx, hb, hml, hown, hts⟩, hr, hlocks, hmn⟩ := id F
    refine lv_iconst (v := 0) hx hb d_M_order_13 (by decide) ?_
    refine xr_cV (As := [.int s1, .int 0]) (rest := []) ⟨hx, hb, hml, hown, hts⟩ hw hM1 hle_u_9 (fun _ _ => ⟨callB_of 2 hts (xgood w_929) rfl rfl rfl (hts _ (xm w_8)) (hts _ (xm w_926)) ⟨by decide, by decide, by decide +kernel⟩ ⟨Nat.le_of_ble_eq_true rfl, Nat.le_of_ble_eq_true rfl⟩, (hts _ (xm w_928)), (hts _ (xm wp_38))⟩) (qc := (R_M, F_M, 14)) rfl rfl h2 rfl hl.1 rfl (Nat.le_of_ble_eq_true rfl) d_M_order_14 (fun H locs hw => ?_)
    refine W.eq (g2 := F0 m 17 ls [.int r_10]) rfl ?_
    refine lv_if_eq (tgt := 24) hx hb d_M_order_17 (by decide) (fun _ => ?_) (fun c9 => absurd hc3 c9)
    refine lv_aload_n hx hb d_M_order_24 rfl (lv_at hl 0 rfl) ?_
    refine xr_get hx hb hts (xmu uws_M) hown hw h4 rfl (by decide) (hts _ (xm w_871)) (fun _ h9 => h9) d_M_order_25 ?_
    refine lv_iload_n hx hb d_M_order_28 rfl (lv_at hl 1 rfl) ?_
    refine xr_iald hx hb hw h5 d_M_order_29 ?_
    exact xr_iret F rfl hw d_M_order_30
  · have k := k.2 hc3
    have hle_u_9 : x_le u_9 u_9 := x_le.rf u_9
    have hle_u : x_le u u_9 := (hM1.1).tr hle_u_9
    refine ⟨some (.int 0), u_9, ⟨(0 : Int32), rfl, k⟩, hle_u, ?_⟩
    intro p e s m args below meth c A H locs ls F hw hl
    obtain ⟨⟨hx, hb, hml, hown, hts⟩, hr, hlocks, hmn⟩ := id F
    refine lv_iconst (v := 0) hx hb d_M_order_13 (by decide) ?_
    refine xr_cV (As := [.int s1, .int 0]) (rest := []) ⟨hx, hb, hml, hown, hts⟩ hw hM1 hle_u_9 (fun _ _ => ⟨callB_of 2 hts (xgood w_929) rfl rfl rfl (hts _ (xm w_8)) (hts _ (xm w_926)) ⟨by decide, by decide, by decide +kernel⟩ ⟨Nat.le_of_ble_eq_true rfl, Nat.le_of_ble_eq_true rfl⟩, (hts _ (xm w_928)), (hts _ (xm wp_38))⟩) (qc := (R_M, F_M, 14)) rfl rfl h2 rfl hl.1 rfl (Nat.le_of_ble_eq_true rfl) d_M_order_14 (fun H locs hw => ?_)
    refine W.eq (g2 := F0 m 17 ls [.int r_10]) rfl ?_
    refine lv_if_eq (tgt := 24) hx hb d_M_order_17 (by decide) (fun c9 => absurd c9 hc3) (fun _ => ?_)
    refine lv_iconst (v := 0) hx hb d_M_order_20 (by decide) ?_
    refine lv_goto (tgt := 30) hx hb d_M_order_21 (by decide) ?_
    exact xr_iret F rfl hw d_M_order_30
set_option maxRecDepth 100000 in
set_option maxHeartbeats 4000000 in
theorem c_M_order (l : Launch) (Z : XZ) (x0 : Nat) (x1 : Int32) (u : PS) (K : Int32 → PS → Prop) (k : p_M_order x0 x1 u K) : ∃ (rv : Option Value) (u1 : PS), (kI K) rv u1 ∧ XMet l Z i_M_order [.ref x0, .int x1] u rv u1 := by
  refine x_met (by decide) rfl (Nat.le_of_ble_eq_true rfl) ?_
  show XN l Z i_M_order u (kI K) u 0 [(0, .ref x0), (1, .int x1)] []
  unfold p_M_order at k
  obtain ⟨_, u_7, ⟨r_8, rfl, k⟩, hM1⟩ := c_M_isInput l Z x1 u _ k
  by_cases hc2 : r_8 = 0
  · have k := k.2 hc2
    obtain ⟨rv, v9, hK, hle_u_7, w9⟩ := t_M_order_J13 l Z u x0 x1 x0 (1 : Int32) u_7 k
    have hle_u : x_le u v9 := (hM1.1).tr hle_u_7
    refine ⟨rv, v9, hK, hle_u, ?_⟩
    intro p e s m args below meth c A H locs ls F hw hl
    obtain ⟨⟨hx, hb, hml, hown, hts⟩, hr, hlocks, hmn⟩ := id F
    refine lv_aload_n hx hb d_M_order_0 rfl (lv_at hl 0 rfl) ?_
    refine lv_iload_n hx hb d_M_order_1 rfl (lv_at hl 1 rfl) ?_
    refine xr_cS (As := [.int x1]) (rest := [.ref x0]) ⟨hx, hb, hml, hown, hts⟩ hw hM1 hle_u_7 (fun _ _ => ⟨callB_of 1 hts (xgood w_936) rfl rfl rfl (hts _ (xm w_8)) (hts _ (xm w_934)) ⟨by decide, by decide, by decide +kernel⟩ ⟨Nat.le_of_ble_eq_true rfl, Nat.le_of_ble_eq_true rfl⟩, (hts _ (xm w_935))⟩) rfl hl.1 rfl (Nat.le_of_ble_eq_true rfl) d_M_order_2 (fun H locs hw => ?_)
    refine W.eq (g2 := F0 m 5 ls [.int r_8, .ref x0]) rfl ?_
    refine lv_if_ne (tgt := 12) hx hb d_M_order_5 (by decide) (fun c9 => absurd hc2 c9) (fun _ => ?_)
    refine lv_iconst (v := 1) hx hb d_M_order_8 (by decide) ?_
    refine lv_goto (tgt := 13) hx hb d_M_order_9 (by decide) ?_
    exact w9 p e s m args below meth c A H locs ls F hw (lv_sub hl [0, 1] rfl)
  · have k := k.1 hc2
    obtain ⟨rv, v9, hK, hle_u_7, w9⟩ := t_M_order_J13 l Z u x0 x1 x0 (0 : Int32) u_7 k
    have hle_u : x_le u v9 := (hM1.1).tr hle_u_7
    refine ⟨rv, v9, hK, hle_u, ?_⟩
    intro p e s m args below meth c A H locs ls F hw hl
    obtain ⟨⟨hx, hb, hml, hown, hts⟩, hr, hlocks, hmn⟩ := id F
    refine lv_aload_n hx hb d_M_order_0 rfl (lv_at hl 0 rfl) ?_
    refine lv_iload_n hx hb d_M_order_1 rfl (lv_at hl 1 rfl) ?_
    refine xr_cS (As := [.int x1]) (rest := [.ref x0]) ⟨hx, hb, hml, hown, hts⟩ hw hM1 hle_u_7 (fun _ _ => ⟨callB_of 1 hts (xgood w_936) rfl rfl rfl (hts _ (xm w_8)) (hts _ (xm w_934)) ⟨by decide, by decide, by decide +kernel⟩ ⟨Nat.le_of_ble_eq_true rfl, Nat.le_of_ble_eq_true rfl⟩, (hts _ (xm w_935))⟩) rfl hl.1 rfl (Nat.le_of_ble_eq_true rfl) d_M_order_2 (fun H locs hw => ?_)
    refine W.eq (g2 := F0 m 5 ls [.int r_8, .ref x0]) rfl ?_
    refine lv_if_ne (tgt := 12) hx hb d_M_order_5 (by decide) (fun _ => ?_) (fun c9 => absurd c9 hc2)
    refine lv_iconst (v := 0) hx hb d_M_order_12 (by decide) ?_
    exact w9 p e s m args below meth c A H locs ls F hw (lv_sub hl [0, 1] rfl)
