set_option maxRecDepth 100000 in
set_option maxHeartbeats 4000000 in
theorem c_H_size (l : Launch) (Z : XZ) (x0 : Nat) (x1 : Int32) (u : PS) (K : Int32 → PS → Prop) (X : String → PS → Prop) (k : p_H_size x0 x1 u K X) : (∃ (rv : Option Value) (u1 : PS), (kI K) rv u1 ∧ XMet l Z i_H_size [.ref x0, .int x1] u rv u1) ∨ ∃ (E : String) (u1 : PS), X E u1 ∧ XMt l Z i_H_size [.ref x0, .int x1] u E u1 := by
  refine x_metx (by decide) rfl (Nat.le_of_ble_eq_true rfl) ?_
  show XNx l Z i_H_size u (kI K) X u 0 [(0, .ref x0), (1, .int x1)] []
  unfold p_H_size at k
  by_cases hc1 : x1 = (-1)
  · have k := k.2 hc1
    obtain ⟨z_12, h2, k⟩ := k
    obtain ⟨h4, k⟩ := k
    obtain ⟨_, u_13, ⟨rfl, k⟩, hM3⟩ := c_D_draw l Z z_12 (16777215 : Int32) u _ k
    obtain ⟨z_14, h5, k⟩ := k
    obtain ⟨h7, k⟩ := k
    obtain ⟨_, u_15, ⟨r_16, rfl, k⟩, hM6⟩ := c_D_wholeSize l Z z_14 u_13 _ k
    have hle_u_15 : x_le u_15 u_15 := x_le.rf u_15
    have hle_u_13 : x_le u_13 u_15 := (hM6.1).tr hle_u_15
    have hle_u : x_le u u_15 := (hM3.1).tr hle_u_13
    refine Or.inl ⟨some (.int r_16), u_15, ⟨r_16, rfl, k⟩, hle_u, ?_⟩
    intro p e s m args below meth c A H locs ls F hw hl
    obtain ⟨⟨hx, hb, hml, hown, hts⟩, hr, hlocks, hmn⟩ := id F
    refine lv_iload_n hx hb d_H_size_0 rfl (lv_at hl 1 rfl) ?_
    refine lv_iconst (v := (-1)) hx hb d_H_size_1 (by decide) ?_
    refine lv_icmp_ne (tgt := 22) hx hb d_H_size_2 (by decide) (fun c9 => absurd hc1 c9) (fun _ => ?_)
    refine lv_aload_n hx hb d_H_size_5 rfl (lv_at hl 0 rfl) ?_
    refine xr_get hx hb hts (xmu uws_H) hown hw h2 rfl (by decide) (hts _ (xm w_232)) (fun _ h9 => h9) d_H_size_6 ?_
    refine lv_ldc (v := 16777215) hx hb hown (hts _ (xm w_242)) d_H_size_9 ?_
    refine xr_cV (As := [.int 16777215]) (rest := []) ⟨hx, hb, hml, hown, hts⟩ hw hM3 hle_u_13 (fun _ _ => ⟨callB_of 1 hts (xgood w_246) rfl rfl rfl (hts _ (xm w_3)) (hts _ (xm w_243)) ⟨by decide, by decide, by decide +kernel⟩ ⟨Nat.le_of_ble_eq_true rfl, Nat.le_of_ble_eq_true rfl⟩, (hts _ (xm w_244)), (hts _ (xm w_245))⟩) (qc := (R_D, F_D, 13)) rfl rfl h4 rfl hl.1 rfl (Nat.le_of_ble_eq_true rfl) d_H_size_11 (fun H locs hw => ?_)
    refine W.eq (g2 := F0 m 14 ls []) rfl ?_
    refine lv_aload_n hx hb d_H_size_14 rfl (lv_at hl 0 rfl) ?_
    refine xr_get hx hb hts (xmu uws_H) hown hw h5 rfl (by decide) (hts _ (xm w_232)) (fun _ h9 => h9) d_H_size_15 ?_
    refine xr_cV (As := []) (rest := []) ⟨hx, hb, hml, hown, hts⟩ hw hM6 hle_u_15 (fun _ _ => ⟨callB_of 0 hts (xgood w_506) rfl rfl rfl (hts _ (xm w_3)) (hts _ (xm w_503)) ⟨by decide, by decide, by decide +kernel⟩ ⟨Nat.le_of_ble_eq_true rfl, Nat.le_of_ble_eq_true rfl⟩, (hts _ (xm w_504)), (hts _ (xm w_505))⟩) (qc := (R_D, F_D, 13)) rfl rfl h7 rfl hl.1 rfl (Nat.le_of_ble_eq_true rfl) d_H_size_18 (fun H locs hw => ?_)
    refine W.eq (g2 := F0 m 21 ls [.int r_16]) rfl ?_
    exact xr_iret F rfl hw d_H_size_21
  · have k := k.1 hc1
    rcases c_H_needPlace l Z x1 u _ _ k with ⟨_, u_17, ⟨rfl, k⟩, hM8⟩ | ⟨E9, u_17, k, hM8⟩
    ·
      obtain ⟨z_18, h9, k⟩ := k
      obtain ⟨h11, k⟩ := k
      obtain ⟨_, u_19, ⟨rfl, k⟩, hM10⟩ := c_D_draw l Z z_18 ((1 : Int32) <<< (x1 &&& 31)) u_17 _ k
      obtain ⟨z_20, h12, k⟩ := k
      obtain ⟨h14, k⟩ := k
      obtain ⟨_, u_21, ⟨r_22, rfl, k⟩, hM13⟩ := c_D_sizeOf l Z z_20 x1 u_19 _ k
      have hle_u_21 : x_le u_21 u_21 := x_le.rf u_21
      have hle_u_19 : x_le u_19 u_21 := (hM13.1).tr hle_u_21
      have hle_u_17 : x_le u_17 u_21 := (hM10.1).tr hle_u_19
      have hle_u : x_le u u_21 := (hM8.1).tr hle_u_17
      refine Or.inl ⟨some (.int r_22), u_21, ⟨r_22, rfl, k⟩, hle_u, ?_⟩
      intro p e s m args below meth c A H locs ls F hw hl
      obtain ⟨⟨hx, hb, hml, hown, hts⟩, hr, hlocks, hmn⟩ := id F
      refine lv_iload_n hx hb d_H_size_0 rfl (lv_at hl 1 rfl) ?_
      refine lv_iconst (v := (-1)) hx hb d_H_size_1 (by decide) ?_
      refine lv_icmp_ne (tgt := 22) hx hb d_H_size_2 (by decide) (fun _ => ?_) (fun c9 => absurd c9 hc1)
      refine lv_iload_n hx hb d_H_size_22 rfl (lv_at hl 1 rfl) ?_
      refine xr_cS (As := [.int x1]) (rest := []) ⟨hx, hb, hml, hown, hts⟩ hw hM8 hle_u_17 (fun _ _ => ⟨callB_of 1 hts (xgood w_518) rfl rfl rfl (hts _ (xm w_1)) (hts _ (xm w_516)) ⟨by decide, by decide, by decide +kernel⟩ ⟨Nat.le_of_ble_eq_true rfl, Nat.le_of_ble_eq_true rfl⟩, (hts _ (xm w_517))⟩) rfl hl.1 rfl (Nat.le_of_ble_eq_true rfl) d_H_size_23 (fun H locs hw => ?_)
      refine W.eq (g2 := F0 m 26 ls []) rfl ?_
      refine lv_aload_n hx hb d_H_size_26 rfl (lv_at hl 0 rfl) ?_
      refine xr_get hx hb hts (xmu uws_H) hown hw h9 rfl (by decide) (hts _ (xm w_232)) (fun _ h9 => h9) d_H_size_27 ?_
      refine lv_iconst (v := 1) hx hb d_H_size_30 (by decide) ?_
      refine lv_iload_n hx hb d_H_size_31 rfl (lv_at hl 1 rfl) ?_
      refine lv_ishl hx hb d_H_size_32 ?_
      refine xr_cV (As := [.int ((1 : Int32) <<< (x1 &&& 31))]) (rest := []) ⟨hx, hb, hml, hown, hts⟩ hw hM10 hle_u_19 (fun _ _ => ⟨callB_of 1 hts (xgood w_246) rfl rfl rfl (hts _ (xm w_3)) (hts _ (xm w_243)) ⟨by decide, by decide, by decide +kernel⟩ ⟨Nat.le_of_ble_eq_true rfl, Nat.le_of_ble_eq_true rfl⟩, (hts _ (xm w_244)), (hts _ (xm w_245))⟩) (qc := (R_D, F_D, 13)) rfl rfl h11 rfl hl.1 rfl (Nat.le_of_ble_eq_true rfl) d_H_size_33 (fun H locs hw => ?_)
      refine W.eq (g2 := F0 m 36 ls []) rfl ?_
      refine lv_aload_n hx hb d_H_size_36 rfl (lv_at hl 0 rfl) ?_
      refine xr_get hx hb hts (xmu uws_H) hown hw h12 rfl (by decide) (hts _ (xm w_232)) (fun _ h9 => h9) d_H_size_37 ?_
      refine lv_iload_n hx hb d_H_size_40 rfl (lv_at hl 1 rfl) ?_
      refine xr_cV (As := [.int x1]) (rest := []) ⟨hx, hb, hml, hown, hts⟩ hw hM13 hle_u_21 (fun _ _ => ⟨callB_of 1 hts (xgood w_765) rfl rfl rfl (hts _ (xm w_3)) (hts _ (xm w_762)) ⟨by decide, by decide, by decide +kernel⟩ ⟨Nat.le_of_ble_eq_true rfl, Nat.le_of_ble_eq_true rfl⟩, (hts _ (xm w_763)), (hts _ (xm w_764))⟩) (qc := (R_D, F_D, 13)) rfl rfl h14 rfl hl.1 rfl (Nat.le_of_ble_eq_true rfl) d_H_size_41 (fun H locs hw => ?_)
      refine W.eq (g2 := F0 m 44 ls [.int r_22]) rfl ?_
      exact xr_iret F rfl hw d_H_size_44
    ·
      have hle_u_17 : x_le u_17 u_17 := x_le.rf u_17
      have hle_u : x_le u u_17 := (hM8.1).tr hle_u_17
      refine Or.inr ⟨E9, u_17, k, hle_u, ?_⟩
      intro p e s m args below meth c A H locs ls F hno hw hl
      obtain ⟨⟨hx, hb, hml, hown, hts⟩, hr, hlocks, hmn⟩ := id F
      refine lv_iload_n hx hb d_H_size_0 rfl (lv_at hl 1 rfl) ?_
      refine lv_iconst (v := (-1)) hx hb d_H_size_1 (by decide) ?_
      refine lv_icmp_ne (tgt := 22) hx hb d_H_size_2 (by decide) (fun _ => ?_) (fun c9 => absurd c9 hc1)
      refine lv_iload_n hx hb d_H_size_22 rfl (lv_at hl 1 rfl) ?_
      refine xt_cS (As := [.int x1]) (rest := []) ⟨hx, hb, hml, hown, hts⟩ hw hM8 hle_u_17 (fun _ _ => ⟨callB_of 1 hts (xgood w_518) rfl rfl rfl (hts _ (xm w_1)) (hts _ (xm w_516)) ⟨by decide, by decide, by decide +kernel⟩ ⟨Nat.le_of_ble_eq_true rfl, Nat.le_of_ble_eq_true rfl⟩, (hts _ (xm w_517))⟩) rfl hl.1 rfl (Nat.le_of_ble_eq_true rfl) d_H_size_23 (fun q9 ce H locs T9 hw hce hcv hcl hT X9 => ?_)
      exact xt_out F hno hw hce hcv hcl hT X9
set_option maxRecDepth 100000 in
set_option maxHeartbeats 4000000 in
theorem c_H_count (l : Launch) (Z : XZ) (x0 : Nat) (x1 : Int32) (u : PS) (K : Int32 → PS → Prop) (X : String → PS → Prop) (k : p_H_count x0 x1 u K X) : (∃ (rv : Option Value) (u1 : PS), (kI K) rv u1 ∧ XMet l Z i_H_count [.ref x0, .int x1] u rv u1) ∨ ∃ (E : String) (u1 : PS), X E u1 ∧ XMt l Z i_H_count [.ref x0, .int x1] u E u1 := by
  refine x_metx (by decide) rfl (Nat.le_of_ble_eq_true rfl) ?_
  show XNx l Z i_H_count u (kI K) X u 0 [(0, .ref x0), (1, .int x1)] []
  unfold p_H_count at k
  rcases c_H_needPlace l Z x1 u _ _ k with ⟨_, u_5, ⟨rfl, k⟩, hM1⟩ | ⟨E9, u_5, k, hM1⟩
  ·
    obtain ⟨z_6, h2, k⟩ := k
    obtain ⟨h4, k⟩ := k
    obtain ⟨_, u_7, ⟨r_8, rfl, k⟩, hM3⟩ := c_F_ones l Z z_6 x1 u_5 _ k
    have hle_u_7 : x_le u_7 u_7 := x_le.rf u_7
    have hle_u_5 : x_le u_5 u_7 := (hM3.1).tr hle_u_7
    have hle_u : x_le u u_7 := (hM1.1).tr hle_u_5
    refine Or.inl ⟨some (.int r_8), u_7, ⟨r_8, rfl, k⟩, hle_u, ?_⟩
    intro p e s m args below meth c A H locs ls F hw hl
    obtain ⟨⟨hx, hb, hml, hown, hts⟩, hr, hlocks, hmn⟩ := id F
    refine lv_iload_n hx hb d_H_count_0 rfl (lv_at hl 1 rfl) ?_
    refine xr_cS (As := [.int x1]) (rest := []) ⟨hx, hb, hml, hown, hts⟩ hw hM1 hle_u_5 (fun _ _ => ⟨callB_of 1 hts (xgood w_518) rfl rfl rfl (hts _ (xm w_1)) (hts _ (xm w_516)) ⟨by decide, by decide, by decide +kernel⟩ ⟨Nat.le_of_ble_eq_true rfl, Nat.le_of_ble_eq_true rfl⟩, (hts _ (xm w_517))⟩) rfl hl.1 rfl (Nat.le_of_ble_eq_true rfl) d_H_count_1 (fun H locs hw => ?_)
    refine W.eq (g2 := F0 m 4 ls []) rfl ?_
    refine lv_aload_n hx hb d_H_count_4 rfl (lv_at hl 0 rfl) ?_
    refine xr_get hx hb hts (xmu uws_H) hown hw h2 rfl (by decide) (hts _ (xm w_231)) (fun _ h9 => h9) d_H_count_5 ?_
    refine lv_iload_n hx hb d_H_count_8 rfl (lv_at hl 1 rfl) ?_
    refine xr_cV (As := [.int x1]) (rest := []) ⟨hx, hb, hml, hown, hts⟩ hw hM3 hle_u_7 (fun _ _ => ⟨callB_of 1 hts (xgood w_784) rfl rfl rfl (hts _ (xm w_2)) (hts _ (xm w_781)) ⟨by decide, by decide, by decide +kernel⟩ ⟨Nat.le_of_ble_eq_true rfl, Nat.le_of_ble_eq_true rfl⟩, (hts _ (xm w_782)), (hts _ (xm w_783))⟩) (qc := (R_F, F_F, 5)) rfl rfl h4 rfl hl.1 rfl (Nat.le_of_ble_eq_true rfl) d_H_count_9 (fun H locs hw => ?_)
    refine W.eq (g2 := F0 m 12 ls [.int r_8]) rfl ?_
    exact xr_iret F rfl hw d_H_count_12
  ·
    have hle_u_5 : x_le u_5 u_5 := x_le.rf u_5
    have hle_u : x_le u u_5 := (hM1.1).tr hle_u_5
    refine Or.inr ⟨E9, u_5, k, hle_u, ?_⟩
    intro p e s m args below meth c A H locs ls F hno hw hl
    obtain ⟨⟨hx, hb, hml, hown, hts⟩, hr, hlocks, hmn⟩ := id F
    refine lv_iload_n hx hb d_H_count_0 rfl (lv_at hl 1 rfl) ?_
    refine xt_cS (As := [.int x1]) (rest := []) ⟨hx, hb, hml, hown, hts⟩ hw hM1 hle_u_5 (fun _ _ => ⟨callB_of 1 hts (xgood w_518) rfl rfl rfl (hts _ (xm w_1)) (hts _ (xm w_516)) ⟨by decide, by decide, by decide +kernel⟩ ⟨Nat.le_of_ble_eq_true rfl, Nat.le_of_ble_eq_true rfl⟩, (hts _ (xm w_517))⟩) rfl hl.1 rfl (Nat.le_of_ble_eq_true rfl) d_H_count_1 (fun q9 ce H locs T9 hw hce hcv hcl hT X9 => ?_)
    exact xt_out F hno hw hce hcv hcl hT X9
set_option maxRecDepth 100000 in
set_option maxHeartbeats 4000000 in
theorem c_H_value (l : Launch) (Z : XZ) (x0 : Nat) (x1 : Int32) (x2 : Int32) (u : PS) (K : Int32 → PS → Prop) (X : String → PS → Prop) (k : p_H_value x0 x1 x2 u K X) : (∃ (rv : Option Value) (u1 : PS), (kI K) rv u1 ∧ XMet l Z i_H_value [.ref x0, .int x1, .int x2] u rv u1) ∨ ∃ (E : String) (u1 : PS), X E u1 ∧ XMt l Z i_H_value [.ref x0, .int x1, .int x2] u E u1 := by
  refine x_metx (by decide) rfl (Nat.le_of_ble_eq_true rfl) ?_
  show XNx l Z i_H_value u (kI K) X u 0 [(0, .ref x0), (1, .int x1), (2, .int x2)] []
  unfold p_H_value at k
  rcases c_H_needPlace l Z x1 u _ _ k with ⟨_, u_6, ⟨rfl, k⟩, hM1⟩ | ⟨E9, u_6, k, hM1⟩
  ·
    rcases c_H_needBelow l Z x2 (1024 : Int32) u_6 _ _ k with ⟨_, u_7, ⟨rfl, k⟩, hM2⟩ | ⟨E9, u_7, k, hM2⟩
    ·
      obtain ⟨z_8, h3, k⟩ := k
      obtain ⟨h5, k⟩ := k
      obtain ⟨_, u_9, ⟨r_10, rfl, k⟩, hM4⟩ := c_F_bit l Z z_8 x1 x2 u_7 _ k
      by_cases hc6 : r_10 = 1
      · have k := k.2 hc6
        obtain ⟨hz9, k⟩ := k
        have hle_u_9 : x_le u_9 u_9 := x_le.rf u_9
        have hle_u_7 : x_le u_7 u_9 := (hM4.1).tr hle_u_9
        have hle_u_6 : x_le u_6 u_9 := (hM2.1).tr hle_u_7
        have hle_u : x_le u u_9 := (hM1.1).tr hle_u_6
        refine Or.inl ⟨some (.int 1), u_9, ⟨(1 : Int32), rfl, k⟩, hle_u, ?_⟩
        intro p e s m args below meth c A H locs ls F hw hl
        obtain ⟨⟨hx, hb, hml, hown, hts⟩, hr, hlocks, hmn⟩ := id F
        refine lv_iload_n hx hb d_H_value_0 rfl (lv_at hl 1 rfl) ?_
        refine xr_cS (As := [.int x1]) (rest := []) ⟨hx, hb, hml, hown, hts⟩ hw hM1 hle_u_6 (fun _ _ => ⟨callB_of 1 hts (xgood w_518) rfl rfl rfl (hts _ (xm w_1)) (hts _ (xm w_516)) ⟨by decide, by decide, by decide +kernel⟩ ⟨Nat.le_of_ble_eq_true rfl, Nat.le_of_ble_eq_true rfl⟩, (hts _ (xm w_517))⟩) rfl hl.1 rfl (Nat.le_of_ble_eq_true rfl) d_H_value_1 (fun H locs hw => ?_)
        refine W.eq (g2 := F0 m 4 ls []) rfl ?_
        refine lv_iload_n hx hb d_H_value_4 rfl (lv_at hl 2 rfl) ?_
        refine lv_sipush (v := 1024) hx hb d_H_value_5 (by decide) ?_
        refine xr_cS (As := [.int x2, .int 1024]) (rest := []) ⟨hx, hb, hml, hown, hts⟩ hw hM2 hle_u_7 (fun _ _ => ⟨callB_of 2 hts (xgood w_640) rfl rfl rfl (hts _ (xm w_1)) (hts _ (xm w_638)) ⟨by decide, by decide, by decide +kernel⟩ ⟨Nat.le_of_ble_eq_true rfl, Nat.le_of_ble_eq_true rfl⟩, (hts _ (xm w_639))⟩) rfl hl.1 rfl (Nat.le_of_ble_eq_true rfl) d_H_value_8 (fun H locs hw => ?_)
        refine W.eq (g2 := F0 m 11 ls []) rfl ?_
        refine lv_aload_n hx hb d_H_value_11 rfl (lv_at hl 0 rfl) ?_
        refine xr_get hx hb hts (xmu uws_H) hown hw h3 rfl (by decide) (hts _ (xm w_231)) (fun _ h9 => h9) d_H_value_12 ?_
        refine lv_iload_n hx hb d_H_value_15 rfl (lv_at hl 1 rfl) ?_
        refine lv_iload_n hx hb d_H_value_16 rfl (lv_at hl 2 rfl) ?_
        refine xr_cV (As := [.int x1, .int x2]) (rest := []) ⟨hx, hb, hml, hown, hts⟩ hw hM4 hle_u_9 (fun _ _ => ⟨callB_of 2 hts (xgood w_284) rfl rfl rfl (hts _ (xm w_2)) (hts _ (xm w_799)) ⟨by decide, by decide, by decide +kernel⟩ ⟨Nat.le_of_ble_eq_true rfl, Nat.le_of_ble_eq_true rfl⟩, (hts _ (xm w_282)), (hts _ (xm w_283))⟩) (qc := (R_F, F_F, 5)) rfl rfl h5 rfl hl.1 rfl (Nat.le_of_ble_eq_true rfl) d_H_value_17 (fun H locs hw => ?_)
        refine W.eq (g2 := F0 m 20 ls [.int r_10]) rfl ?_
        refine lv_iconst (v := 1) hx hb d_H_value_20 (by decide) ?_
        refine lv_icmp_ne (tgt := 28) hx hb d_H_value_21 (by decide) (fun c9 => absurd hc6 c9) (fun _ => ?_)
        refine lv_iconst (v := 1) hx hb d_H_value_24 (by decide) ?_
        refine lv_goto (tgt := 29) hx hb d_H_value_25 (by decide) ?_
        exact xr_zret F rfl hz9 hw d_H_value_29
      · have k := k.1 hc6
        obtain ⟨hz9, k⟩ := k
        have hle_u_9 : x_le u_9 u_9 := x_le.rf u_9
        have hle_u_7 : x_le u_7 u_9 := (hM4.1).tr hle_u_9
        have hle_u_6 : x_le u_6 u_9 := (hM2.1).tr hle_u_7
        have hle_u : x_le u u_9 := (hM1.1).tr hle_u_6
        refine Or.inl ⟨some (.int 0), u_9, ⟨(0 : Int32), rfl, k⟩, hle_u, ?_⟩
        intro p e s m args below meth c A H locs ls F hw hl
        obtain ⟨⟨hx, hb, hml, hown, hts⟩, hr, hlocks, hmn⟩ := id F
        refine lv_iload_n hx hb d_H_value_0 rfl (lv_at hl 1 rfl) ?_
        refine xr_cS (As := [.int x1]) (rest := []) ⟨hx, hb, hml, hown, hts⟩ hw hM1 hle_u_6 (fun _ _ => ⟨callB_of 1 hts (xgood w_518) rfl rfl rfl (hts _ (xm w_1)) (hts _ (xm w_516)) ⟨by decide, by decide, by decide +kernel⟩ ⟨Nat.le_of_ble_eq_true rfl, Nat.le_of_ble_eq_true rfl⟩, (hts _ (xm w_517))⟩) rfl hl.1 rfl (Nat.le_of_ble_eq_true rfl) d_H_value_1 (fun H locs hw => ?_)
        refine W.eq (g2 := F0 m 4 ls []) rfl ?_
        refine lv_iload_n hx hb d_H_value_4 rfl (lv_at hl 2 rfl) ?_
        refine lv_sipush (v := 1024) hx hb d_H_value_5 (by decide) ?_
        refine xr_cS (As := [.int x2, .int 1024]) (rest := []) ⟨hx, hb, hml, hown, hts⟩ hw hM2 hle_u_7 (fun _ _ => ⟨callB_of 2 hts (xgood w_640) rfl rfl rfl (hts _ (xm w_1)) (hts _ (xm w_638)) ⟨by decide, by decide, by decide +kernel⟩ ⟨Nat.le_of_ble_eq_true rfl, Nat.le_of_ble_eq_true rfl⟩, (hts _ (xm w_639))⟩) rfl hl.1 rfl (Nat.le_of_ble_eq_true rfl) d_H_value_8 (fun H locs hw => ?_)
        refine W.eq (g2 := F0 m 11 ls []) rfl ?_
        refine lv_aload_n hx hb d_H_value_11 rfl (lv_at hl 0 rfl) ?_
        refine xr_get hx hb hts (xmu uws_H) hown hw h3 rfl (by decide) (hts _ (xm w_231)) (fun _ h9 => h9) d_H_value_12 ?_
        refine lv_iload_n hx hb d_H_value_15 rfl (lv_at hl 1 rfl) ?_
        refine lv_iload_n hx hb d_H_value_16 rfl (lv_at hl 2 rfl) ?_
        refine xr_cV (As := [.int x1, .int x2]) (rest := []) ⟨hx, hb, hml, hown, hts⟩ hw hM4 hle_u_9 (fun _ _ => ⟨callB_of 2 hts (xgood w_284) rfl rfl rfl (hts _ (xm w_2)) (hts _ (xm w_799)) ⟨by decide, by decide, by decide +kernel⟩ ⟨Nat.le_of_ble_eq_true rfl, Nat.le_of_ble_eq_true rfl⟩, (hts _ (xm w_282)), (hts _ (xm w_283))⟩) (qc := (R_F, F_F, 5)) rfl rfl h5 rfl hl.1 rfl (Nat.le_of_ble_eq_true rfl) d_H_value_17 (fun H locs hw => ?_)
        refine W.eq (g2 := F0 m 20 ls [.int r_10]) rfl ?_
        refine lv_iconst (v := 1) hx hb d_H_value_20 (by decide) ?_
        refine lv_icmp_ne (tgt := 28) hx hb d_H_value_21 (by decide) (fun _ => ?_) (fun c9 => absurd c9 hc6)
        refine lv_iconst (v := 0) hx hb d_H_value_28 (by decide) ?_
        exact xr_zret F rfl hz9 hw d_H_value_29
    ·
      have hle_u_7 : x_le u_7 u_7 := x_le.rf u_7
      have hle_u_6 : x_le u_6 u_7 := (hM2.1).tr hle_u_7
      have hle_u : x_le u u_7 := (hM1.1).tr hle_u_6
      refine Or.inr ⟨E9, u_7, k, hle_u, ?_⟩
      intro p e s m args below meth c A H locs ls F hno hw hl
      obtain ⟨⟨hx, hb, hml, hown, hts⟩, hr, hlocks, hmn⟩ := id F
      refine lv_iload_n hx hb d_H_value_0 rfl (lv_at hl 1 rfl) ?_
      refine xr_cS (As := [.int x1]) (rest := []) ⟨hx, hb, hml, hown, hts⟩ hw hM1 hle_u_6 (fun _ _ => ⟨callB_of 1 hts (xgood w_518) rfl rfl rfl (hts _ (xm w_1)) (hts _ (xm w_516)) ⟨by decide, by decide, by decide +kernel⟩ ⟨Nat.le_of_ble_eq_true rfl, Nat.le_of_ble_eq_true rfl⟩, (hts _ (xm w_517))⟩) rfl hl.1 rfl (Nat.le_of_ble_eq_true rfl) d_H_value_1 (fun H locs hw => ?_)
      refine W.eq (g2 := F0 m 4 ls []) rfl ?_
      refine lv_iload_n hx hb d_H_value_4 rfl (lv_at hl 2 rfl) ?_
      refine lv_sipush (v := 1024) hx hb d_H_value_5 (by decide) ?_
      refine xt_cS (As := [.int x2, .int 1024]) (rest := []) ⟨hx, hb, hml, hown, hts⟩ hw hM2 hle_u_7 (fun _ _ => ⟨callB_of 2 hts (xgood w_640) rfl rfl rfl (hts _ (xm w_1)) (hts _ (xm w_638)) ⟨by decide, by decide, by decide +kernel⟩ ⟨Nat.le_of_ble_eq_true rfl, Nat.le_of_ble_eq_true rfl⟩, (hts _ (xm w_639))⟩) rfl hl.1 rfl (Nat.le_of_ble_eq_true rfl) d_H_value_8 (fun q9 ce H locs T9 hw hce hcv hcl hT X9 => ?_)
      exact xt_out F hno hw hce hcv hcl hT X9
  ·
    have hle_u_6 : x_le u_6 u_6 := x_le.rf u_6
    have hle_u : x_le u u_6 := (hM1.1).tr hle_u_6
    refine Or.inr ⟨E9, u_6, k, hle_u, ?_⟩
    intro p e s m args below meth c A H locs ls F hno hw hl
    obtain ⟨⟨hx, hb, hml, hown, hts⟩, hr, hlocks, hmn⟩ := id F
    refine lv_iload_n hx hb d_H_value_0 rfl (lv_at hl 1 rfl) ?_
    refine xt_cS (As := [.int x1]) (rest := []) ⟨hx, hb, hml, hown, hts⟩ hw hM1 hle_u_6 (fun _ _ => ⟨callB_of 1 hts (xgood w_518) rfl rfl rfl (hts _ (xm w_1)) (hts _ (xm w_516)) ⟨by decide, by decide, by decide +kernel⟩ ⟨Nat.le_of_ble_eq_true rfl, Nat.le_of_ble_eq_true rfl⟩, (hts _ (xm w_517))⟩) rfl hl.1 rfl (Nat.le_of_ble_eq_true rfl) d_H_value_1 (fun q9 ce H locs T9 hw hce hcv hcl hT X9 => ?_)
    exact xt_out F hno hw hce hcv hcl hT X9
set_option maxRecDepth 100000 in
set_option maxHeartbeats 4000000 in
theorem c_H_least (l : Launch) (Z : XZ) (x0 : Nat) (x1 : Int32) (u : PS) (K : Int32 → PS → Prop) (X : String → PS → Prop) (k : p_H_least x0 x1 u K X) : (∃ (rv : Option Value) (u1 : PS), (kI K) rv u1 ∧ XMet l Z i_H_least [.ref x0, .int x1] u rv u1) ∨ ∃ (E : String) (u1 : PS), X E u1 ∧ XMt l Z i_H_least [.ref x0, .int x1] u E u1 := by
  refine x_metx (by decide) rfl (Nat.le_of_ble_eq_true rfl) ?_
  show XNx l Z i_H_least u (kI K) X u 0 [(0, .ref x0), (1, .int x1)] []
  unfold p_H_least at k
  rcases c_H_needPlace l Z x1 u _ _ k with ⟨_, u_5, ⟨rfl, k⟩, hM1⟩ | ⟨E9, u_5, k, hM1⟩
  ·
    obtain ⟨z_6, h2, k⟩ := k
    obtain ⟨h4, k⟩ := k
    obtain ⟨_, u_7, ⟨r_8, rfl, k⟩, hM3⟩ := c_F_firstOne l Z z_6 x1 u_5 _ k
    have hle_u_7 : x_le u_7 u_7 := x_le.rf u_7
    have hle_u_5 : x_le u_5 u_7 := (hM3.1).tr hle_u_7
    have hle_u : x_le u u_7 := (hM1.1).tr hle_u_5
    refine Or.inl ⟨some (.int r_8), u_7, ⟨r_8, rfl, k⟩, hle_u, ?_⟩
    intro p e s m args below meth c A H locs ls F hw hl
    obtain ⟨⟨hx, hb, hml, hown, hts⟩, hr, hlocks, hmn⟩ := id F
    refine lv_iload_n hx hb d_H_least_0 rfl (lv_at hl 1 rfl) ?_
    refine xr_cS (As := [.int x1]) (rest := []) ⟨hx, hb, hml, hown, hts⟩ hw hM1 hle_u_5 (fun _ _ => ⟨callB_of 1 hts (xgood w_518) rfl rfl rfl (hts _ (xm w_1)) (hts _ (xm w_516)) ⟨by decide, by decide, by decide +kernel⟩ ⟨Nat.le_of_ble_eq_true rfl, Nat.le_of_ble_eq_true rfl⟩, (hts _ (xm w_517))⟩) rfl hl.1 rfl (Nat.le_of_ble_eq_true rfl) d_H_least_1 (fun H locs hw => ?_)
    refine W.eq (g2 := F0 m 4 ls []) rfl ?_
    refine lv_aload_n hx hb d_H_least_4 rfl (lv_at hl 0 rfl) ?_
    refine xr_get hx hb hts (xmu uws_H) hown hw h2 rfl (by decide) (hts _ (xm w_231)) (fun _ h9 => h9) d_H_least_5 ?_
    refine lv_iload_n hx hb d_H_least_8 rfl (lv_at hl 1 rfl) ?_
    refine xr_cV (As := [.int x1]) (rest := []) ⟨hx, hb, hml, hown, hts⟩ hw hM3 hle_u_7 (fun _ _ => ⟨callB_of 1 hts (xgood w_810) rfl rfl rfl (hts _ (xm w_2)) (hts _ (xm w_807)) ⟨by decide, by decide, by decide +kernel⟩ ⟨Nat.le_of_ble_eq_true rfl, Nat.le_of_ble_eq_true rfl⟩, (hts _ (xm w_808)), (hts _ (xm w_809))⟩) (qc := (R_F, F_F, 5)) rfl rfl h4 rfl hl.1 rfl (Nat.le_of_ble_eq_true rfl) d_H_least_9 (fun H locs hw => ?_)
    refine W.eq (g2 := F0 m 12 ls [.int r_8]) rfl ?_
    exact xr_iret F rfl hw d_H_least_12
  ·
    have hle_u_5 : x_le u_5 u_5 := x_le.rf u_5
    have hle_u : x_le u u_5 := (hM1.1).tr hle_u_5
    refine Or.inr ⟨E9, u_5, k, hle_u, ?_⟩
    intro p e s m args below meth c A H locs ls F hno hw hl
    obtain ⟨⟨hx, hb, hml, hown, hts⟩, hr, hlocks, hmn⟩ := id F
    refine lv_iload_n hx hb d_H_least_0 rfl (lv_at hl 1 rfl) ?_
    refine xt_cS (As := [.int x1]) (rest := []) ⟨hx, hb, hml, hown, hts⟩ hw hM1 hle_u_5 (fun _ _ => ⟨callB_of 1 hts (xgood w_518) rfl rfl rfl (hts _ (xm w_1)) (hts _ (xm w_516)) ⟨by decide, by decide, by decide +kernel⟩ ⟨Nat.le_of_ble_eq_true rfl, Nat.le_of_ble_eq_true rfl⟩, (hts _ (xm w_517))⟩) rfl hl.1 rfl (Nat.le_of_ble_eq_true rfl) d_H_least_1 (fun q9 ce H locs T9 hw hce hcv hcl hT X9 => ?_)
    exact xt_out F hno hw hce hcv hcl hT X9
set_option maxRecDepth 100000 in
set_option maxHeartbeats 4000000 in
theorem c_H_support (l : Launch) (Z : XZ) (x0 : Nat) (x1 : Int32) (u : PS) (K : Int32 → PS → Prop) (X : String → PS → Prop) (k : p_H_support x0 x1 u K X) : (∃ (rv : Option Value) (u1 : PS), (kI K) rv u1 ∧ XMet l Z i_H_support [.ref x0, .int x1] u rv u1) ∨ ∃ (E : String) (u1 : PS), X E u1 ∧ XMt l Z i_H_support [.ref x0, .int x1] u E u1 := by
  refine x_metx (by decide) rfl (Nat.le_of_ble_eq_true rfl) ?_
  show XNx l Z i_H_support u (kI K) X u 0 [(0, .ref x0), (1, .int x1)] []
  unfold p_H_support at k
  rcases c_H_needPlace l Z x1 u _ _ k with ⟨_, u_5, ⟨rfl, k⟩, hM1⟩ | ⟨E9, u_5, k, hM1⟩
  ·
    obtain ⟨z_6, h2, k⟩ := k
    obtain ⟨h4, k⟩ := k
    obtain ⟨_, u_7, ⟨r_8, rfl, k⟩, hM3⟩ := c_F_usedInputs l Z z_6 x1 u_5 _ k
    have hle_u_7 : x_le u_7 u_7 := x_le.rf u_7
    have hle_u_5 : x_le u_5 u_7 := (hM3.1).tr hle_u_7
    have hle_u : x_le u u_7 := (hM1.1).tr hle_u_5
    refine Or.inl ⟨some (.int r_8), u_7, ⟨r_8, rfl, k⟩, hle_u, ?_⟩
    intro p e s m args below meth c A H locs ls F hw hl
    obtain ⟨⟨hx, hb, hml, hown, hts⟩, hr, hlocks, hmn⟩ := id F
    refine lv_iload_n hx hb d_H_support_0 rfl (lv_at hl 1 rfl) ?_
    refine xr_cS (As := [.int x1]) (rest := []) ⟨hx, hb, hml, hown, hts⟩ hw hM1 hle_u_5 (fun _ _ => ⟨callB_of 1 hts (xgood w_518) rfl rfl rfl (hts _ (xm w_1)) (hts _ (xm w_516)) ⟨by decide, by decide, by decide +kernel⟩ ⟨Nat.le_of_ble_eq_true rfl, Nat.le_of_ble_eq_true rfl⟩, (hts _ (xm w_517))⟩) rfl hl.1 rfl (Nat.le_of_ble_eq_true rfl) d_H_support_1 (fun H locs hw => ?_)
    refine W.eq (g2 := F0 m 4 ls []) rfl ?_
    refine lv_aload_n hx hb d_H_support_4 rfl (lv_at hl 0 rfl) ?_
    refine xr_get hx hb hts (xmu uws_H) hown hw h2 rfl (by decide) (hts _ (xm w_231)) (fun _ h9 => h9) d_H_support_5 ?_
    refine lv_iload_n hx hb d_H_support_8 rfl (lv_at hl 1 rfl) ?_
    refine xr_cV (As := [.int x1]) (rest := []) ⟨hx, hb, hml, hown, hts⟩ hw hM3 hle_u_7 (fun _ _ => ⟨callB_of 1 hts (xgood w_255) rfl rfl rfl (hts _ (xm w_2)) (hts _ (xm w_822)) ⟨by decide, by decide, by decide +kernel⟩ ⟨Nat.le_of_ble_eq_true rfl, Nat.le_of_ble_eq_true rfl⟩, (hts _ (xm w_253)), (hts _ (xm w_254))⟩) (qc := (R_F, F_F, 5)) rfl rfl h4 rfl hl.1 rfl (Nat.le_of_ble_eq_true rfl) d_H_support_9 (fun H locs hw => ?_)
    refine W.eq (g2 := F0 m 12 ls [.int r_8]) rfl ?_
    exact xr_iret F rfl hw d_H_support_12
  ·
    have hle_u_5 : x_le u_5 u_5 := x_le.rf u_5
    have hle_u : x_le u u_5 := (hM1.1).tr hle_u_5
    refine Or.inr ⟨E9, u_5, k, hle_u, ?_⟩
    intro p e s m args below meth c A H locs ls F hno hw hl
    obtain ⟨⟨hx, hb, hml, hown, hts⟩, hr, hlocks, hmn⟩ := id F
    refine lv_iload_n hx hb d_H_support_0 rfl (lv_at hl 1 rfl) ?_
    refine xt_cS (As := [.int x1]) (rest := []) ⟨hx, hb, hml, hown, hts⟩ hw hM1 hle_u_5 (fun _ _ => ⟨callB_of 1 hts (xgood w_518) rfl rfl rfl (hts _ (xm w_1)) (hts _ (xm w_516)) ⟨by decide, by decide, by decide +kernel⟩ ⟨Nat.le_of_ble_eq_true rfl, Nat.le_of_ble_eq_true rfl⟩, (hts _ (xm w_517))⟩) rfl hl.1 rfl (Nat.le_of_ble_eq_true rfl) d_H_support_1 (fun q9 ce H locs T9 hw hce hcv hcl hT X9 => ?_)
    exact xt_out F hno hw hce hcv hcl hT X9
set_option maxRecDepth 100000 in
set_option maxHeartbeats 4000000 in
theorem c_H_alike (l : Launch) (Z : XZ) (x0 : Nat) (x1 : Int32) (x2 : Int32) (u : PS) (K : Int32 → PS → Prop) (X : String → PS → Prop) (k : p_H_alike x0 x1 x2 u K X) : (∃ (rv : Option Value) (u1 : PS), (kI K) rv u1 ∧ XMet l Z i_H_alike [.ref x0, .int x1, .int x2] u rv u1) ∨ ∃ (E : String) (u1 : PS), X E u1 ∧ XMt l Z i_H_alike [.ref x0, .int x1, .int x2] u E u1 := by
  refine x_metx (by decide) rfl (Nat.le_of_ble_eq_true rfl) ?_
  show XNx l Z i_H_alike u (kI K) X u 0 [(0, .ref x0), (1, .int x1), (2, .int x2)] []
  unfold p_H_alike at k
  rcases c_H_needPlaces l Z x1 x2 x2 u _ _ k with ⟨_, u_5, ⟨rfl, k⟩, hM1⟩ | ⟨E9, u_5, k, hM1⟩
  ·
    obtain ⟨z_6, h2, k⟩ := k
    obtain ⟨h4, k⟩ := k
    obtain ⟨_, u_7, ⟨r_8, rfl, k⟩, hM3⟩ := c_F_areSame l Z z_6 x1 x2 u_5 _ k
    obtain ⟨hz9, k⟩ := k
    have hle_u_7 : x_le u_7 u_7 := x_le.rf u_7
    have hle_u_5 : x_le u_5 u_7 := (hM3.1).tr hle_u_7
    have hle_u : x_le u u_7 := (hM1.1).tr hle_u_5
    refine Or.inl ⟨some (.int r_8), u_7, ⟨r_8, rfl, k⟩, hle_u, ?_⟩
    intro p e s m args below meth c A H locs ls F hw hl
    obtain ⟨⟨hx, hb, hml, hown, hts⟩, hr, hlocks, hmn⟩ := id F
    refine lv_iload_n hx hb d_H_alike_0 rfl (lv_at hl 1 rfl) ?_
    refine lv_iload_n hx hb d_H_alike_1 rfl (lv_at hl 2 rfl) ?_
    refine lv_iload_n hx hb d_H_alike_2 rfl (lv_at hl 2 rfl) ?_
    refine xr_cS (As := [.int x1, .int x2, .int x2]) (rest := []) ⟨hx, hb, hml, hown, hts⟩ hw hM1 hle_u_5 (fun _ _ => ⟨callB_of 3 hts (xgood w_637) rfl rfl rfl (hts _ (xm w_1)) (hts _ (xm w_635)) ⟨by decide, by decide, by decide +kernel⟩ ⟨Nat.le_of_ble_eq_true rfl, Nat.le_of_ble_eq_true rfl⟩, (hts _ (xm w_636))⟩) rfl hl.1 rfl (Nat.le_of_ble_eq_true rfl) d_H_alike_3 (fun H locs hw => ?_)
    refine W.eq (g2 := F0 m 6 ls []) rfl ?_
    refine lv_aload_n hx hb d_H_alike_6 rfl (lv_at hl 0 rfl) ?_
    refine xr_get hx hb hts (xmu uws_H) hown hw h2 rfl (by decide) (hts _ (xm w_231)) (fun _ h9 => h9) d_H_alike_7 ?_
    refine lv_iload_n hx hb d_H_alike_10 rfl (lv_at hl 1 rfl) ?_
    refine lv_iload_n hx hb d_H_alike_11 rfl (lv_at hl 2 rfl) ?_
    refine xr_cV (As := [.int x1, .int x2]) (rest := []) ⟨hx, hb, hml, hown, hts⟩ hw hM3 hle_u_7 (fun _ _ => ⟨callB_of 2 hts (xgood w_833) rfl rfl rfl (hts _ (xm w_2)) (hts _ (xm w_830)) ⟨by decide, by decide, by decide +kernel⟩ ⟨Nat.le_of_ble_eq_true rfl, Nat.le_of_ble_eq_true rfl⟩, (hts _ (xm w_831)), (hts _ (xm w_832))⟩) (qc := (R_F, F_F, 5)) rfl rfl h4 rfl hl.1 rfl (Nat.le_of_ble_eq_true rfl) d_H_alike_12 (fun H locs hw => ?_)
    refine W.eq (g2 := F0 m 15 ls [.int r_8]) rfl ?_
    exact xr_zret F rfl hz9 hw d_H_alike_15
  ·
    have hle_u_5 : x_le u_5 u_5 := x_le.rf u_5
    have hle_u : x_le u u_5 := (hM1.1).tr hle_u_5
    refine Or.inr ⟨E9, u_5, k, hle_u, ?_⟩
    intro p e s m args below meth c A H locs ls F hno hw hl
    obtain ⟨⟨hx, hb, hml, hown, hts⟩, hr, hlocks, hmn⟩ := id F
    refine lv_iload_n hx hb d_H_alike_0 rfl (lv_at hl 1 rfl) ?_
    refine lv_iload_n hx hb d_H_alike_1 rfl (lv_at hl 2 rfl) ?_
    refine lv_iload_n hx hb d_H_alike_2 rfl (lv_at hl 2 rfl) ?_
    refine xt_cS (As := [.int x1, .int x2, .int x2]) (rest := []) ⟨hx, hb, hml, hown, hts⟩ hw hM1 hle_u_5 (fun _ _ => ⟨callB_of 3 hts (xgood w_637) rfl rfl rfl (hts _ (xm w_1)) (hts _ (xm w_635)) ⟨by decide, by decide, by decide +kernel⟩ ⟨Nat.le_of_ble_eq_true rfl, Nat.le_of_ble_eq_true rfl⟩, (hts _ (xm w_636))⟩) rfl hl.1 rfl (Nat.le_of_ble_eq_true rfl) d_H_alike_3 (fun q9 ce H locs T9 hw hce hcv hcl hT X9 => ?_)
    exact xt_out F hno hw hce hcv hcl hT X9
set_option maxRecDepth 100000 in
set_option maxHeartbeats 4000000 in
theorem c_H_asked (l : Launch) (Z : XZ) (x0 : Nat) (x1 : Int32) (x2 : Int32) (x3 : Int32) (u : PS) (K : Int32 → PS → Prop) (X : String → PS → Prop) (k : p_H_asked x0 x1 x2 x3 u K X) : (∃ (rv : Option Value) (u1 : PS), (kI K) rv u1 ∧ XMet l Z i_H_asked [.ref x0, .int x1, .int x2, .int x3] u rv u1) ∨ ∃ (E : String) (u1 : PS), X E u1 ∧ XMt l Z i_H_asked [.ref x0, .int x1, .int x2, .int x3] u E u1 := by
  refine x_metx (by decide) rfl (Nat.le_of_ble_eq_true rfl) ?_
  show XNx l Z i_H_asked u (kI K) X u 0 [(0, .ref x0), (1, .int x1), (2, .int x2), (3, .int x3)] []
  unfold p_H_asked at k
  rcases c_H_needPlace l Z x1 u _ _ k with ⟨_, u_8, ⟨rfl, k⟩, hM1⟩ | ⟨E9, u_8, k, hM1⟩
  ·
    by_cases hc2 : 0 ≤ x3
    · have k := k.1 hc2
      rcases c_H_needBelow l Z x2 (1024 : Int32) u_8 _ _ k with ⟨_, u_9, ⟨rfl, k⟩, hM3⟩ | ⟨E9, u_9, k, hM3⟩
      ·
        obtain ⟨z_10, h4, k⟩ := k
        obtain ⟨h6, k⟩ := k
        obtain ⟨_, u_11, ⟨rfl, k⟩, hM5⟩ := c_D_draw l Z z_10 ((1 : Int32) <<< (x1 &&& 31)) u_9 _ k
        obtain ⟨z_12, h7, k⟩ := k
        obtain ⟨h9, k⟩ := k
        obtain ⟨_, u_13, ⟨r_14, rfl, k⟩, hM8⟩ := c_D_questionOf l Z z_12 x1 x2 x3 u_11 _ k
        have hle_u_13 : x_le u_13 u_13 := x_le.rf u_13
        have hle_u_11 : x_le u_11 u_13 := (hM8.1).tr hle_u_13
        have hle_u_9 : x_le u_9 u_13 := (hM5.1).tr hle_u_11
        have hle_u_8 : x_le u_8 u_13 := (hM3.1).tr hle_u_9
        have hle_u : x_le u u_13 := (hM1.1).tr hle_u_8
        refine Or.inl ⟨some (.int r_14), u_13, ⟨r_14, rfl, k⟩, hle_u, ?_⟩
        intro p e s m args below meth c A H locs ls F hw hl
        obtain ⟨⟨hx, hb, hml, hown, hts⟩, hr, hlocks, hmn⟩ := id F
        refine lv_iload_n hx hb d_H_asked_0 rfl (lv_at hl 1 rfl) ?_
        refine xr_cS (As := [.int x1]) (rest := []) ⟨hx, hb, hml, hown, hts⟩ hw hM1 hle_u_8 (fun _ _ => ⟨callB_of 1 hts (xgood w_518) rfl rfl rfl (hts _ (xm w_1)) (hts _ (xm w_516)) ⟨by decide, by decide, by decide +kernel⟩ ⟨Nat.le_of_ble_eq_true rfl, Nat.le_of_ble_eq_true rfl⟩, (hts _ (xm w_517))⟩) rfl hl.1 rfl (Nat.le_of_ble_eq_true rfl) d_H_asked_1 (fun H locs hw => ?_)
        refine W.eq (g2 := F0 m 4 ls []) rfl ?_
        refine lv_iload_n hx hb d_H_asked_4 rfl (lv_at hl 3 rfl) ?_
        refine lv_if_ge (tgt := 18) hx hb d_H_asked_5 (by decide) (fun _ => ?_) (fun c9 => absurd hc2 c9)
        refine lv_iload_n hx hb d_H_asked_18 rfl (lv_at hl 2 rfl) ?_
        refine lv_sipush (v := 1024) hx hb d_H_asked_19 (by decide) ?_
        refine xr_cS (As := [.int x2, .int 1024]) (rest := []) ⟨hx, hb, hml, hown, hts⟩ hw hM3 hle_u_9 (fun _ _ => ⟨callB_of 2 hts (xgood w_640) rfl rfl rfl (hts _ (xm w_1)) (hts _ (xm w_638)) ⟨by decide, by decide, by decide +kernel⟩ ⟨Nat.le_of_ble_eq_true rfl, Nat.le_of_ble_eq_true rfl⟩, (hts _ (xm w_639))⟩) rfl hl.1 rfl (Nat.le_of_ble_eq_true rfl) d_H_asked_22 (fun H locs hw => ?_)
        refine W.eq (g2 := F0 m 25 ls []) rfl ?_
        refine lv_aload_n hx hb d_H_asked_25 rfl (lv_at hl 0 rfl) ?_
        refine xr_get hx hb hts (xmu uws_H) hown hw h4 rfl (by decide) (hts _ (xm w_232)) (fun _ h9 => h9) d_H_asked_26 ?_
        refine lv_iconst (v := 1) hx hb d_H_asked_29 (by decide) ?_
        refine lv_iload_n hx hb d_H_asked_30 rfl (lv_at hl 1 rfl) ?_
        refine lv_ishl hx hb d_H_asked_31 ?_
        refine xr_cV (As := [.int ((1 : Int32) <<< (x1 &&& 31))]) (rest := []) ⟨hx, hb, hml, hown, hts⟩ hw hM5 hle_u_11 (fun _ _ => ⟨callB_of 1 hts (xgood w_246) rfl rfl rfl (hts _ (xm w_3)) (hts _ (xm w_243)) ⟨by decide, by decide, by decide +kernel⟩ ⟨Nat.le_of_ble_eq_true rfl, Nat.le_of_ble_eq_true rfl⟩, (hts _ (xm w_244)), (hts _ (xm w_245))⟩) (qc := (R_D, F_D, 13)) rfl rfl h6 rfl hl.1 rfl (Nat.le_of_ble_eq_true rfl) d_H_asked_32 (fun H locs hw => ?_)
        refine W.eq (g2 := F0 m 35 ls []) rfl ?_
        refine lv_aload_n hx hb d_H_asked_35 rfl (lv_at hl 0 rfl) ?_
        refine xr_get hx hb hts (xmu uws_H) hown hw h7 rfl (by decide) (hts _ (xm w_232)) (fun _ h9 => h9) d_H_asked_36 ?_
        refine lv_iload_n hx hb d_H_asked_39 rfl (lv_at hl 1 rfl) ?_
        refine lv_iload_n hx hb d_H_asked_40 rfl (lv_at hl 2 rfl) ?_
        refine lv_iload_n hx hb d_H_asked_41 rfl (lv_at hl 3 rfl) ?_
        refine xr_cV (As := [.int x1, .int x2, .int x3]) (rest := []) ⟨hx, hb, hml, hown, hts⟩ hw hM8 hle_u_13 (fun _ _ => ⟨callB_of 3 hts (xgood w_845) rfl rfl rfl (hts _ (xm w_3)) (hts _ (xm w_842)) ⟨by decide, by decide, by decide +kernel⟩ ⟨Nat.le_of_ble_eq_true rfl, Nat.le_of_ble_eq_true rfl⟩, (hts _ (xm w_843)), (hts _ (xm w_844))⟩) (qc := (R_D, F_D, 13)) rfl rfl h9 rfl hl.1 rfl (Nat.le_of_ble_eq_true rfl) d_H_asked_42 (fun H locs hw => ?_)
        refine W.eq (g2 := F0 m 45 ls [.int r_14]) rfl ?_
        exact xr_iret F rfl hw d_H_asked_45
      ·
        have hle_u_9 : x_le u_9 u_9 := x_le.rf u_9
        have hle_u_8 : x_le u_8 u_9 := (hM3.1).tr hle_u_9
        have hle_u : x_le u u_9 := (hM1.1).tr hle_u_8
        refine Or.inr ⟨E9, u_9, k, hle_u, ?_⟩
        intro p e s m args below meth c A H locs ls F hno hw hl
        obtain ⟨⟨hx, hb, hml, hown, hts⟩, hr, hlocks, hmn⟩ := id F
        refine lv_iload_n hx hb d_H_asked_0 rfl (lv_at hl 1 rfl) ?_
        refine xr_cS (As := [.int x1]) (rest := []) ⟨hx, hb, hml, hown, hts⟩ hw hM1 hle_u_8 (fun _ _ => ⟨callB_of 1 hts (xgood w_518) rfl rfl rfl (hts _ (xm w_1)) (hts _ (xm w_516)) ⟨by decide, by decide, by decide +kernel⟩ ⟨Nat.le_of_ble_eq_true rfl, Nat.le_of_ble_eq_true rfl⟩, (hts _ (xm w_517))⟩) rfl hl.1 rfl (Nat.le_of_ble_eq_true rfl) d_H_asked_1 (fun H locs hw => ?_)
        refine W.eq (g2 := F0 m 4 ls []) rfl ?_
        refine lv_iload_n hx hb d_H_asked_4 rfl (lv_at hl 3 rfl) ?_
        refine lv_if_ge (tgt := 18) hx hb d_H_asked_5 (by decide) (fun _ => ?_) (fun c9 => absurd hc2 c9)
        refine lv_iload_n hx hb d_H_asked_18 rfl (lv_at hl 2 rfl) ?_
        refine lv_sipush (v := 1024) hx hb d_H_asked_19 (by decide) ?_
        refine xt_cS (As := [.int x2, .int 1024]) (rest := []) ⟨hx, hb, hml, hown, hts⟩ hw hM3 hle_u_9 (fun _ _ => ⟨callB_of 2 hts (xgood w_640) rfl rfl rfl (hts _ (xm w_1)) (hts _ (xm w_638)) ⟨by decide, by decide, by decide +kernel⟩ ⟨Nat.le_of_ble_eq_true rfl, Nat.le_of_ble_eq_true rfl⟩, (hts _ (xm w_639))⟩) rfl hl.1 rfl (Nat.le_of_ble_eq_true rfl) d_H_asked_22 (fun q9 ce H locs T9 hw hce hcv hcl hT X9 => ?_)
        exact xt_out F hno hw hce hcv hcl hT X9
    · have k := k.2 hc2
      have hle_u_8 : x_le u_8 (x_th u_8) := x_th.le u_8
      have hle_u : x_le u (x_th u_8) := (hM1.1).tr hle_u_8
      refine Or.inr ⟨"java/lang/IndexOutOfBoundsException", (x_th u_8), k, hle_u, ?_⟩
      intro p e s m args below meth c A H locs ls F hno hw hl
      obtain ⟨⟨hx, hb, hml, hown, hts⟩, hr, hlocks, hmn⟩ := id F
      refine lv_iload_n hx hb d_H_asked_0 rfl (lv_at hl 1 rfl) ?_
      refine xr_cS (As := [.int x1]) (rest := []) ⟨hx, hb, hml, hown, hts⟩ hw hM1 hle_u_8 (fun _ _ => ⟨callB_of 1 hts (xgood w_518) rfl rfl rfl (hts _ (xm w_1)) (hts _ (xm w_516)) ⟨by decide, by decide, by decide +kernel⟩ ⟨Nat.le_of_ble_eq_true rfl, Nat.le_of_ble_eq_true rfl⟩, (hts _ (xm w_517))⟩) rfl hl.1 rfl (Nat.le_of_ble_eq_true rfl) d_H_asked_1 (fun H locs hw => ?_)
      refine W.eq (g2 := F0 m 4 ls []) rfl ?_
      refine lv_iload_n hx hb d_H_asked_4 rfl (lv_at hl 3 rfl) ?_
      refine lv_if_ge (tgt := 18) hx hb d_H_asked_5 (by decide) (fun c9 => absurd c9 hc2) (fun _ => ?_)
      obtain ⟨sa9, hsa9⟩ := xt_text hw.2.2.2.2.2.1 (own := "DiagramHouse") (k := 123) (tx := "no such question") (List.mem_of_getElem? (i := 841) (by decide +kernel)) (by decide +kernel)
      exact xt_throw (cls := "java/lang/IndexOutOfBoundsException") (text := "no such question") (names := ["java/lang/RuntimeException", "java/lang/Exception"]) (ik := 93) (is := 123) (ic := 97) F hno hw (by decide +kernel) (by decide +kernel) (hts _ (xm w_519)) (hts _ (xm w_12)) rfl rfl hsa9 (fun w9 h9 => (oa_H_97 w9 h9).imp (fun h8 => ⟨hts _ (xm (List.mem_filter.mpr h8)), h8.2⟩) id) (hl.1.trans hml.symm) d_H_asked_8 d_H_asked_11 d_H_asked_12 d_H_asked_14 d_H_asked_17 (by decide) (by decide)
  ·
    have hle_u_8 : x_le u_8 u_8 := x_le.rf u_8
    have hle_u : x_le u u_8 := (hM1.1).tr hle_u_8
    refine Or.inr ⟨E9, u_8, k, hle_u, ?_⟩
    intro p e s m args below meth c A H locs ls F hno hw hl
    obtain ⟨⟨hx, hb, hml, hown, hts⟩, hr, hlocks, hmn⟩ := id F
    refine lv_iload_n hx hb d_H_asked_0 rfl (lv_at hl 1 rfl) ?_
    refine xt_cS (As := [.int x1]) (rest := []) ⟨hx, hb, hml, hown, hts⟩ hw hM1 hle_u_8 (fun _ _ => ⟨callB_of 1 hts (xgood w_518) rfl rfl rfl (hts _ (xm w_1)) (hts _ (xm w_516)) ⟨by decide, by decide, by decide +kernel⟩ ⟨Nat.le_of_ble_eq_true rfl, Nat.le_of_ble_eq_true rfl⟩, (hts _ (xm w_517))⟩) rfl hl.1 rfl (Nat.le_of_ble_eq_true rfl) d_H_asked_1 (fun q9 ce H locs T9 hw hce hcv hcl hT X9 => ?_)
    exact xt_out F hno hw hce hcv hcl hT X9
set_option maxRecDepth 100000 in
set_option maxHeartbeats 4000000 in
theorem c_H_questions (l : Launch) (Z : XZ) (x0 : Nat) (x1 : Int32) (u : PS) (K : Int32 → PS → Prop) (X : String → PS → Prop) (k : p_H_questions x0 x1 u K X) : (∃ (rv : Option Value) (u1 : PS), (kI K) rv u1 ∧ XMet l Z i_H_questions [.ref x0, .int x1] u rv u1) ∨ ∃ (E : String) (u1 : PS), X E u1 ∧ XMt l Z i_H_questions [.ref x0, .int x1] u E u1 := by
  refine x_metx (by decide) rfl (Nat.le_of_ble_eq_true rfl) ?_
  show XNx l Z i_H_questions u (kI K) X u 0 [(0, .ref x0), (1, .int x1)] []
  unfold p_H_questions at k
  rcases c_H_needInput l Z x1 u _ _ k with ⟨_, u_7, ⟨rfl, k⟩, hM1⟩ | ⟨E9, u_7, k, hM1⟩
  ·
    obtain ⟨z_8, h2, k⟩ := k
    obtain ⟨h4, k⟩ := k
    obtain ⟨_, u_9, ⟨rfl, k⟩, hM3⟩ := c_D_draw l Z z_8 (16777215 : Int32) u_7 _ k
    obtain ⟨z_10, h5, k⟩ := k
    obtain ⟨h7, k⟩ := k
    obtain ⟨_, u_11, ⟨r_12, rfl, k⟩, hM6⟩ := c_D_questionsFor l Z z_10 x1 u_9 _ k
    have hle_u_11 : x_le u_11 u_11 := x_le.rf u_11
    have hle_u_9 : x_le u_9 u_11 := (hM6.1).tr hle_u_11
    have hle_u_7 : x_le u_7 u_11 := (hM3.1).tr hle_u_9
    have hle_u : x_le u u_11 := (hM1.1).tr hle_u_7
    refine Or.inl ⟨some (.int r_12), u_11, ⟨r_12, rfl, k⟩, hle_u, ?_⟩
    intro p e s m args below meth c A H locs ls F hw hl
    obtain ⟨⟨hx, hb, hml, hown, hts⟩, hr, hlocks, hmn⟩ := id F
    refine lv_iload_n hx hb d_H_questions_0 rfl (lv_at hl 1 rfl) ?_
    refine xr_cS (As := [.int x1]) (rest := []) ⟨hx, hb, hml, hown, hts⟩ hw hM1 hle_u_7 (fun _ _ => ⟨callB_of 1 hts (xgood w_622) rfl rfl rfl (hts _ (xm w_1)) (hts _ (xm w_620)) ⟨by decide, by decide, by decide +kernel⟩ ⟨Nat.le_of_ble_eq_true rfl, Nat.le_of_ble_eq_true rfl⟩, (hts _ (xm w_621))⟩) rfl hl.1 rfl (Nat.le_of_ble_eq_true rfl) d_H_questions_1 (fun H locs hw => ?_)
    refine W.eq (g2 := F0 m 4 ls []) rfl ?_
    refine lv_aload_n hx hb d_H_questions_4 rfl (lv_at hl 0 rfl) ?_
    refine xr_get hx hb hts (xmu uws_H) hown hw h2 rfl (by decide) (hts _ (xm w_232)) (fun _ h9 => h9) d_H_questions_5 ?_
    refine lv_ldc (v := 16777215) hx hb hown (hts _ (xm w_242)) d_H_questions_8 ?_
    refine xr_cV (As := [.int 16777215]) (rest := []) ⟨hx, hb, hml, hown, hts⟩ hw hM3 hle_u_9 (fun _ _ => ⟨callB_of 1 hts (xgood w_246) rfl rfl rfl (hts _ (xm w_3)) (hts _ (xm w_243)) ⟨by decide, by decide, by decide +kernel⟩ ⟨Nat.le_of_ble_eq_true rfl, Nat.le_of_ble_eq_true rfl⟩, (hts _ (xm w_244)), (hts _ (xm w_245))⟩) (qc := (R_D, F_D, 13)) rfl rfl h4 rfl hl.1 rfl (Nat.le_of_ble_eq_true rfl) d_H_questions_10 (fun H locs hw => ?_)
    refine W.eq (g2 := F0 m 13 ls []) rfl ?_
    refine lv_aload_n hx hb d_H_questions_13 rfl (lv_at hl 0 rfl) ?_
    refine xr_get hx hb hts (xmu uws_H) hown hw h5 rfl (by decide) (hts _ (xm w_232)) (fun _ h9 => h9) d_H_questions_14 ?_
    refine lv_iload_n hx hb d_H_questions_17 rfl (lv_at hl 1 rfl) ?_
    refine xr_cV (As := [.int x1]) (rest := []) ⟨hx, hb, hml, hown, hts⟩ hw hM6 hle_u_11 (fun _ _ => ⟨callB_of 1 hts (xgood w_860) rfl rfl rfl (hts _ (xm w_3)) (hts _ (xm w_857)) ⟨by decide, by decide, by decide +kernel⟩ ⟨Nat.le_of_ble_eq_true rfl, Nat.le_of_ble_eq_true rfl⟩, (hts _ (xm w_858)), (hts _ (xm w_859))⟩) (qc := (R_D, F_D, 13)) rfl rfl h7 rfl hl.1 rfl (Nat.le_of_ble_eq_true rfl) d_H_questions_18 (fun H locs hw => ?_)
    refine W.eq (g2 := F0 m 21 ls [.int r_12]) rfl ?_
    exact xr_iret F rfl hw d_H_questions_21
  ·
    have hle_u_7 : x_le u_7 u_7 := x_le.rf u_7
    have hle_u : x_le u u_7 := (hM1.1).tr hle_u_7
    refine Or.inr ⟨E9, u_7, k, hle_u, ?_⟩
    intro p e s m args below meth c A H locs ls F hno hw hl
    obtain ⟨⟨hx, hb, hml, hown, hts⟩, hr, hlocks, hmn⟩ := id F
    refine lv_iload_n hx hb d_H_questions_0 rfl (lv_at hl 1 rfl) ?_
    refine xt_cS (As := [.int x1]) (rest := []) ⟨hx, hb, hml, hown, hts⟩ hw hM1 hle_u_7 (fun _ _ => ⟨callB_of 1 hts (xgood w_622) rfl rfl rfl (hts _ (xm w_1)) (hts _ (xm w_620)) ⟨by decide, by decide, by decide +kernel⟩ ⟨Nat.le_of_ble_eq_true rfl, Nat.le_of_ble_eq_true rfl⟩, (hts _ (xm w_621))⟩) rfl hl.1 rfl (Nat.le_of_ble_eq_true rfl) d_H_questions_1 (fun q9 ce H locs T9 hw hce hcv hcl hT X9 => ?_)
    exact xt_out F hno hw hce hcv hcl hT X9
