set_option maxRecDepth 100000 in
set_option maxHeartbeats 4000000 in
theorem t_H_needPlace_J10 (l : Launch) (Z : XZ) (u0 : PS) {K : PS → Prop} {X : String → PS → Prop} (u : PS) (k : (p_H_needPlace_J10 K X u)) : XNx l Z i_H_needPlace u0 (kV K) X u 10 [] [] := by
  unfold p_H_needPlace_J10 at k
  have hle_u : x_le u (x_th u) := x_th.le u
  refine Or.inr ⟨"java/lang/IndexOutOfBoundsException", (x_th u), k, hle_u, ?_⟩
  intro p e s m args below meth c A H locs ls F hno hw hl
  obtain ⟨⟨hx, hb, hml, hown, hts⟩, hr, hlocks, hmn⟩ := id F
  obtain ⟨sa9, hsa9⟩ := xt_text hw.2.2.2.2.2.1 (own := "DiagramHouse") (k := 132) (tx := "no such place") (List.mem_of_getElem? (i := 559) (by decide +kernel)) (by decide +kernel)
  exact xt_throw (cls := "java/lang/IndexOutOfBoundsException") (text := "no such place") (names := ["java/lang/RuntimeException", "java/lang/Exception"]) (ik := 93) (is := 132) (ic := 97) F hno hw (by decide +kernel) (by decide +kernel) (hts _ (xm w_519)) (hts _ (xm w_12)) rfl rfl hsa9 (fun w9 h9 => (oa_H_97 w9 h9).imp (fun h8 => ⟨hts _ (xm (List.mem_filter.mpr h8)), h8.2⟩) id) (hl.1.trans hml.symm) d_H_needPlace_10 d_H_needPlace_13 d_H_needPlace_14 d_H_needPlace_16 d_H_needPlace_19 (by decide) (by decide)
set_option maxRecDepth 100000 in
set_option maxHeartbeats 4000000 in
theorem c_H_needPlace (l : Launch) (Z : XZ) (x0 : Int32) (u : PS) (K : PS → Prop) (X : String → PS → Prop) (k : p_H_needPlace x0 u K X) : (∃ (rv : Option Value) (u1 : PS), (kV K) rv u1 ∧ XMet l Z i_H_needPlace [.int x0] u rv u1) ∨ ∃ (E : String) (u1 : PS), X E u1 ∧ XMt l Z i_H_needPlace [.int x0] u E u1 := by
  refine x_metx (by decide) rfl (Nat.le_of_ble_eq_true rfl) ?_
  show XNx l Z i_H_needPlace u (kV K) X u 0 [(0, .int x0)] []
  unfold p_H_needPlace at k
  by_cases hc1 : x0 < 0
  · have k := k.1 hc1
    rcases t_H_needPlace_J10 l Z u u k with ⟨rv, v9, hK, hle_u, w9⟩ | ⟨rv, v9, hK, hle_u, w9⟩
    ·
      refine Or.inl ⟨rv, v9, hK, hle_u, ?_⟩
      intro p e s m args below meth c A H locs ls F hw hl
      obtain ⟨⟨hx, hb, hml, hown, hts⟩, hr, hlocks, hmn⟩ := id F
      refine lv_iload_n hx hb d_H_needPlace_0 rfl (lv_at hl 0 rfl) ?_
      refine lv_if_lt (tgt := 10) hx hb d_H_needPlace_1 (by decide) (fun _ => ?_) (fun c9 => absurd hc1 c9)
      exact w9 p e s m args below meth c A H locs ls F hw (lv_sub hl [] rfl)
    ·
      refine Or.inr ⟨rv, v9, hK, hle_u, ?_⟩
      intro p e s m args below meth c A H locs ls F hno hw hl
      obtain ⟨⟨hx, hb, hml, hown, hts⟩, hr, hlocks, hmn⟩ := id F
      refine lv_iload_n hx hb d_H_needPlace_0 rfl (lv_at hl 0 rfl) ?_
      refine lv_if_lt (tgt := 10) hx hb d_H_needPlace_1 (by decide) (fun _ => ?_) (fun c9 => absurd hc1 c9)
      exact w9 p e s m args below meth c A H locs ls F hno hw (lv_sub hl [] rfl)
  · have k := k.2 hc1
    by_cases hc2 : x0 < 24
    · have k := k.1 hc2
      have hle_u : x_le u u := x_le.rf u
      refine Or.inl ⟨none, u, ⟨rfl, k⟩, hle_u, ?_⟩
      intro p e s m args below meth c A H locs ls F hw hl
      obtain ⟨⟨hx, hb, hml, hown, hts⟩, hr, hlocks, hmn⟩ := id F
      refine lv_iload_n hx hb d_H_needPlace_0 rfl (lv_at hl 0 rfl) ?_
      refine lv_if_lt (tgt := 10) hx hb d_H_needPlace_1 (by decide) (fun c9 => absurd c9 hc1) (fun _ => ?_)
      refine lv_iload_n hx hb d_H_needPlace_4 rfl (lv_at hl 0 rfl) ?_
      refine lv_bipush (v := 24) hx hb d_H_needPlace_5 (by decide) ?_
      refine lv_icmp_lt (tgt := 20) hx hb d_H_needPlace_7 (by decide) (fun _ => ?_) (fun c9 => absurd hc2 c9)
      exact xr_vret F rfl hw d_H_needPlace_20
    · have k := k.2 hc2
      rcases t_H_needPlace_J10 l Z u u k with ⟨rv, v9, hK, hle_u, w9⟩ | ⟨rv, v9, hK, hle_u, w9⟩
      ·
        refine Or.inl ⟨rv, v9, hK, hle_u, ?_⟩
        intro p e s m args below meth c A H locs ls F hw hl
        obtain ⟨⟨hx, hb, hml, hown, hts⟩, hr, hlocks, hmn⟩ := id F
        refine lv_iload_n hx hb d_H_needPlace_0 rfl (lv_at hl 0 rfl) ?_
        refine lv_if_lt (tgt := 10) hx hb d_H_needPlace_1 (by decide) (fun c9 => absurd c9 hc1) (fun _ => ?_)
        refine lv_iload_n hx hb d_H_needPlace_4 rfl (lv_at hl 0 rfl) ?_
        refine lv_bipush (v := 24) hx hb d_H_needPlace_5 (by decide) ?_
        refine lv_icmp_lt (tgt := 20) hx hb d_H_needPlace_7 (by decide) (fun c9 => absurd c9 hc2) (fun _ => ?_)
        exact w9 p e s m args below meth c A H locs ls F hw (lv_sub hl [] rfl)
      ·
        refine Or.inr ⟨rv, v9, hK, hle_u, ?_⟩
        intro p e s m args below meth c A H locs ls F hno hw hl
        obtain ⟨⟨hx, hb, hml, hown, hts⟩, hr, hlocks, hmn⟩ := id F
        refine lv_iload_n hx hb d_H_needPlace_0 rfl (lv_at hl 0 rfl) ?_
        refine lv_if_lt (tgt := 10) hx hb d_H_needPlace_1 (by decide) (fun c9 => absurd c9 hc1) (fun _ => ?_)
        refine lv_iload_n hx hb d_H_needPlace_4 rfl (lv_at hl 0 rfl) ?_
        refine lv_bipush (v := 24) hx hb d_H_needPlace_5 (by decide) ?_
        refine lv_icmp_lt (tgt := 20) hx hb d_H_needPlace_7 (by decide) (fun c9 => absurd c9 hc2) (fun _ => ?_)
        exact w9 p e s m args below meth c A H locs ls F hno hw (lv_sub hl [] rfl)
set_option maxRecDepth 100000 in
set_option maxHeartbeats 4000000 in
theorem c_H_needTruth (l : Launch) (Z : XZ) (x0 : Int32) (u : PS) (K : PS → Prop) (X : String → PS → Prop) (k : p_H_needTruth x0 u K X) : (∃ (rv : Option Value) (u1 : PS), (kV K) rv u1 ∧ XMet l Z i_H_needTruth [.int x0] u rv u1) ∨ ∃ (E : String) (u1 : PS), X E u1 ∧ XMt l Z i_H_needTruth [.int x0] u E u1 := by
  refine x_metx (by decide) rfl (Nat.le_of_ble_eq_true rfl) ?_
  show XNx l Z i_H_needTruth u (kV K) X u 0 [(0, .int x0)] []
  unfold p_H_needTruth at k
  by_cases hc1 : x0 = 0
  · have k := k.1 hc1
    have hle_u : x_le u u := x_le.rf u
    refine Or.inl ⟨none, u, ⟨rfl, k⟩, hle_u, ?_⟩
    intro p e s m args below meth c A H locs ls F hw hl
    obtain ⟨⟨hx, hb, hml, hown, hts⟩, hr, hlocks, hmn⟩ := id F
    refine lv_iload_n hx hb d_H_needTruth_0 rfl (lv_at hl 0 rfl) ?_
    refine lv_if_eq (tgt := 19) hx hb d_H_needTruth_1 (by decide) (fun _ => ?_) (fun c9 => absurd hc1 c9)
    exact xr_vret F rfl hw d_H_needTruth_19
  · have k := k.2 hc1
    by_cases hc2 : x0 = 1
    · have k := k.1 hc2
      have hle_u : x_le u u := x_le.rf u
      refine Or.inl ⟨none, u, ⟨rfl, k⟩, hle_u, ?_⟩
      intro p e s m args below meth c A H locs ls F hw hl
      obtain ⟨⟨hx, hb, hml, hown, hts⟩, hr, hlocks, hmn⟩ := id F
      refine lv_iload_n hx hb d_H_needTruth_0 rfl (lv_at hl 0 rfl) ?_
      refine lv_if_eq (tgt := 19) hx hb d_H_needTruth_1 (by decide) (fun c9 => absurd c9 hc1) (fun _ => ?_)
      refine lv_iload_n hx hb d_H_needTruth_4 rfl (lv_at hl 0 rfl) ?_
      refine lv_iconst (v := 1) hx hb d_H_needTruth_5 (by decide) ?_
      refine lv_icmp_eq (tgt := 19) hx hb d_H_needTruth_6 (by decide) (fun _ => ?_) (fun c9 => absurd hc2 c9)
      exact xr_vret F rfl hw d_H_needTruth_19
    · have k := k.2 hc2
      have hle_u : x_le u (x_th u) := x_th.le u
      refine Or.inr ⟨"java/lang/IllegalArgumentException", (x_th u), k, hle_u, ?_⟩
      intro p e s m args below meth c A H locs ls F hno hw hl
      obtain ⟨⟨hx, hb, hml, hown, hts⟩, hr, hlocks, hmn⟩ := id F
      refine lv_iload_n hx hb d_H_needTruth_0 rfl (lv_at hl 0 rfl) ?_
      refine lv_if_eq (tgt := 19) hx hb d_H_needTruth_1 (by decide) (fun c9 => absurd c9 hc1) (fun _ => ?_)
      refine lv_iload_n hx hb d_H_needTruth_4 rfl (lv_at hl 0 rfl) ?_
      refine lv_iconst (v := 1) hx hb d_H_needTruth_5 (by decide) ?_
      refine lv_icmp_eq (tgt := 19) hx hb d_H_needTruth_6 (by decide) (fun c9 => absurd c9 hc2) (fun _ => ?_)
      obtain ⟨sa9, hsa9⟩ := xt_text hw.2.2.2.2.2.1 (own := "DiagramHouse") (k := 139) (tx := "neither 0 nor 1") (List.mem_of_getElem? (i := 598) (by decide +kernel)) (by decide +kernel)
      exact xt_throw (cls := "java/lang/IllegalArgumentException") (text := "neither 0 nor 1") (names := ["java/lang/RuntimeException", "java/lang/Exception"]) (ik := 134) (is := 139) (ic := 138) F hno hw (by decide +kernel) (by decide +kernel) (hts _ (xm w_589)) (hts _ (xm w_13)) rfl rfl hsa9 (fun w9 h9 => (oa_H_138 w9 h9).imp (fun h8 => ⟨hts _ (xm (List.mem_filter.mpr h8)), h8.2⟩) id) (hl.1.trans hml.symm) d_H_needTruth_9 d_H_needTruth_12 d_H_needTruth_13 d_H_needTruth_15 d_H_needTruth_18 (by decide) (by decide)
set_option maxRecDepth 100000 in
set_option maxHeartbeats 4000000 in
theorem c_H_constant (l : Launch) (Z : XZ) (x0 : Nat) (x1 : Int32) (x2 : Int32) (u : PS) (K : PS → Prop) (X : String → PS → Prop) (k : p_H_constant x0 x1 x2 u K X) : (∃ (rv : Option Value) (u1 : PS), (kV K) rv u1 ∧ XMet l Z i_H_constant [.ref x0, .int x1, .int x2] u rv u1) ∨ ∃ (E : String) (u1 : PS), X E u1 ∧ XMt l Z i_H_constant [.ref x0, .int x1, .int x2] u E u1 := by
  refine x_metx (by decide) rfl (Nat.le_of_ble_eq_true rfl) ?_
  show XNx l Z i_H_constant u (kV K) X u 0 [(0, .ref x0), (1, .int x1), (2, .int x2)] []
  unfold p_H_constant at k
  rcases c_H_needPlace l Z x1 u _ _ k with ⟨_, u_7, ⟨rfl, k⟩, hM1⟩ | ⟨E9, u_7, k, hM1⟩
  ·
    rcases c_H_needTruth l Z x2 u_7 _ _ k with ⟨_, u_8, ⟨rfl, k⟩, hM2⟩ | ⟨E9, u_8, k, hM2⟩
    ·
      obtain ⟨z_9, h3, k⟩ := k
      obtain ⟨h5, k⟩ := k
      obtain ⟨_, u_10, ⟨rfl, k⟩, hM4⟩ := c_F_setAll l Z z_9 x1 x2 u_8 _ k
      obtain ⟨z_11, h6, k⟩ := k
      obtain ⟨h8, k⟩ := k
      obtain ⟨_, u_12, ⟨rfl, k⟩, hM7⟩ := c_D_functionChanged l Z z_11 x1 u_10 _ k
      have hle_u_12 : x_le u_12 u_12 := x_le.rf u_12
      have hle_u_10 : x_le u_10 u_12 := (hM7.1).tr hle_u_12
      have hle_u_8 : x_le u_8 u_12 := (hM4.1).tr hle_u_10
      have hle_u_7 : x_le u_7 u_12 := (hM2.1).tr hle_u_8
      have hle_u : x_le u u_12 := (hM1.1).tr hle_u_7
      refine Or.inl ⟨none, u_12, ⟨rfl, k⟩, hle_u, ?_⟩
      intro p e s m args below meth c A H locs ls F hw hl
      obtain ⟨⟨hx, hb, hml, hown, hts⟩, hr, hlocks, hmn⟩ := id F
      refine lv_iload_n hx hb d_H_constant_0 rfl (lv_at hl 1 rfl) ?_
      refine xr_cS (As := [.int x1]) (rest := []) ⟨hx, hb, hml, hown, hts⟩ hw hM1 hle_u_7 (fun _ _ => ⟨callB_of 1 hts (xgood w_518) rfl rfl rfl (hts _ (xm w_1)) (hts _ (xm w_516)) ⟨by decide, by decide, by decide +kernel⟩ ⟨Nat.le_of_ble_eq_true rfl, Nat.le_of_ble_eq_true rfl⟩, (hts _ (xm w_517))⟩) rfl hl.1 rfl (Nat.le_of_ble_eq_true rfl) d_H_constant_1 (fun H locs hw => ?_)
      refine W.eq (g2 := F0 m 4 ls []) rfl ?_
      refine lv_iload_n hx hb d_H_constant_4 rfl (lv_at hl 2 rfl) ?_
      refine xr_cS (As := [.int x2]) (rest := []) ⟨hx, hb, hml, hown, hts⟩ hw hM2 hle_u_8 (fun _ _ => ⟨callB_of 1 hts (xgood w_588) rfl rfl rfl (hts _ (xm w_1)) (hts _ (xm w_586)) ⟨by decide, by decide, by decide +kernel⟩ ⟨Nat.le_of_ble_eq_true rfl, Nat.le_of_ble_eq_true rfl⟩, (hts _ (xm w_587))⟩) rfl hl.1 rfl (Nat.le_of_ble_eq_true rfl) d_H_constant_5 (fun H locs hw => ?_)
      refine W.eq (g2 := F0 m 8 ls []) rfl ?_
      refine lv_aload_n hx hb d_H_constant_8 rfl (lv_at hl 0 rfl) ?_
      refine xr_get hx hb hts (xmu uws_H) hown hw h3 rfl (by decide) (hts _ (xm w_231)) (fun _ h9 => h9) d_H_constant_9 ?_
      refine lv_iload_n hx hb d_H_constant_12 rfl (lv_at hl 1 rfl) ?_
      refine lv_iload_n hx hb d_H_constant_13 rfl (lv_at hl 2 rfl) ?_
      refine xr_cV (As := [.int x1, .int x2]) (rest := []) ⟨hx, hb, hml, hown, hts⟩ hw hM4 hle_u_10 (fun _ _ => ⟨callB_of 2 hts (xgood w_608) rfl rfl rfl (hts _ (xm w_2)) (hts _ (xm w_605)) ⟨by decide, by decide, by decide +kernel⟩ ⟨Nat.le_of_ble_eq_true rfl, Nat.le_of_ble_eq_true rfl⟩, (hts _ (xm w_606)), (hts _ (xm w_607))⟩) (qc := (R_F, F_F, 5)) rfl rfl h5 rfl hl.1 rfl (Nat.le_of_ble_eq_true rfl) d_H_constant_14 (fun H locs hw => ?_)
      refine W.eq (g2 := F0 m 17 ls []) rfl ?_
      refine lv_aload_n hx hb d_H_constant_17 rfl (lv_at hl 0 rfl) ?_
      refine xr_get hx hb hts (xmu uws_H) hown hw h6 rfl (by decide) (hts _ (xm w_232)) (fun _ h9 => h9) d_H_constant_18 ?_
      refine lv_iload_n hx hb d_H_constant_21 rfl (lv_at hl 1 rfl) ?_
      refine xr_cV (As := [.int x1]) (rest := []) ⟨hx, hb, hml, hown, hts⟩ hw hM7 hle_u_12 (fun _ _ => ⟨callB_of 1 hts (xgood w_612) rfl rfl rfl (hts _ (xm w_3)) (hts _ (xm w_609)) ⟨by decide, by decide, by decide +kernel⟩ ⟨Nat.le_of_ble_eq_true rfl, Nat.le_of_ble_eq_true rfl⟩, (hts _ (xm w_610)), (hts _ (xm w_611))⟩) (qc := (R_D, F_D, 13)) rfl rfl h8 rfl hl.1 rfl (Nat.le_of_ble_eq_true rfl) d_H_constant_22 (fun H locs hw => ?_)
      refine W.eq (g2 := F0 m 25 ls []) rfl ?_
      exact xr_vret F rfl hw d_H_constant_25
    ·
      have hle_u_8 : x_le u_8 u_8 := x_le.rf u_8
      have hle_u_7 : x_le u_7 u_8 := (hM2.1).tr hle_u_8
      have hle_u : x_le u u_8 := (hM1.1).tr hle_u_7
      refine Or.inr ⟨E9, u_8, k, hle_u, ?_⟩
      intro p e s m args below meth c A H locs ls F hno hw hl
      obtain ⟨⟨hx, hb, hml, hown, hts⟩, hr, hlocks, hmn⟩ := id F
      refine lv_iload_n hx hb d_H_constant_0 rfl (lv_at hl 1 rfl) ?_
      refine xr_cS (As := [.int x1]) (rest := []) ⟨hx, hb, hml, hown, hts⟩ hw hM1 hle_u_7 (fun _ _ => ⟨callB_of 1 hts (xgood w_518) rfl rfl rfl (hts _ (xm w_1)) (hts _ (xm w_516)) ⟨by decide, by decide, by decide +kernel⟩ ⟨Nat.le_of_ble_eq_true rfl, Nat.le_of_ble_eq_true rfl⟩, (hts _ (xm w_517))⟩) rfl hl.1 rfl (Nat.le_of_ble_eq_true rfl) d_H_constant_1 (fun H locs hw => ?_)
      refine W.eq (g2 := F0 m 4 ls []) rfl ?_
      refine lv_iload_n hx hb d_H_constant_4 rfl (lv_at hl 2 rfl) ?_
      refine xt_cS (As := [.int x2]) (rest := []) ⟨hx, hb, hml, hown, hts⟩ hw hM2 hle_u_8 (fun _ _ => ⟨callB_of 1 hts (xgood w_588) rfl rfl rfl (hts _ (xm w_1)) (hts _ (xm w_586)) ⟨by decide, by decide, by decide +kernel⟩ ⟨Nat.le_of_ble_eq_true rfl, Nat.le_of_ble_eq_true rfl⟩, (hts _ (xm w_587))⟩) rfl hl.1 rfl (Nat.le_of_ble_eq_true rfl) d_H_constant_5 (fun q9 ce H locs T9 hw hce hcv hcl hT X9 => ?_)
      exact xt_out F hno hw hce hcv hcl hT X9
  ·
    have hle_u_7 : x_le u_7 u_7 := x_le.rf u_7
    have hle_u : x_le u u_7 := (hM1.1).tr hle_u_7
    refine Or.inr ⟨E9, u_7, k, hle_u, ?_⟩
    intro p e s m args below meth c A H locs ls F hno hw hl
    obtain ⟨⟨hx, hb, hml, hown, hts⟩, hr, hlocks, hmn⟩ := id F
    refine lv_iload_n hx hb d_H_constant_0 rfl (lv_at hl 1 rfl) ?_
    refine xt_cS (As := [.int x1]) (rest := []) ⟨hx, hb, hml, hown, hts⟩ hw hM1 hle_u_7 (fun _ _ => ⟨callB_of 1 hts (xgood w_518) rfl rfl rfl (hts _ (xm w_1)) (hts _ (xm w_516)) ⟨by decide, by decide, by decide +kernel⟩ ⟨Nat.le_of_ble_eq_true rfl, Nat.le_of_ble_eq_true rfl⟩, (hts _ (xm w_517))⟩) rfl hl.1 rfl (Nat.le_of_ble_eq_true rfl) d_H_constant_1 (fun q9 ce H locs T9 hw hce hcv hcl hT X9 => ?_)
    exact xt_out F hno hw hce hcv hcl hT X9
set_option maxRecDepth 100000 in
set_option maxHeartbeats 4000000 in
theorem t_H_needInput_J10 (l : Launch) (Z : XZ) (u0 : PS) {K : PS → Prop} {X : String → PS → Prop} (u : PS) (k : (p_H_needInput_J10 K X u)) : XNx l Z i_H_needInput u0 (kV K) X u 10 [] [] := by
  unfold p_H_needInput_J10 at k
  have hle_u : x_le u (x_th u) := x_th.le u
  refine Or.inr ⟨"java/lang/IllegalArgumentException", (x_th u), k, hle_u, ?_⟩
  intro p e s m args below meth c A H locs ls F hno hw hl
  obtain ⟨⟨hx, hb, hml, hown, hts⟩, hr, hlocks, hmn⟩ := id F
  obtain ⟨sa9, hsa9⟩ := xt_text hw.2.2.2.2.2.1 (own := "DiagramHouse") (k := 136) (tx := "no such input") (List.mem_of_getElem? (i := 623) (by decide +kernel)) (by decide +kernel)
  exact xt_throw (cls := "java/lang/IllegalArgumentException") (text := "no such input") (names := ["java/lang/RuntimeException", "java/lang/Exception"]) (ik := 134) (is := 136) (ic := 138) F hno hw (by decide +kernel) (by decide +kernel) (hts _ (xm w_589)) (hts _ (xm w_13)) rfl rfl hsa9 (fun w9 h9 => (oa_H_138 w9 h9).imp (fun h8 => ⟨hts _ (xm (List.mem_filter.mpr h8)), h8.2⟩) id) (hl.1.trans hml.symm) d_H_needInput_10 d_H_needInput_13 d_H_needInput_14 d_H_needInput_16 d_H_needInput_19 (by decide) (by decide)
set_option maxRecDepth 100000 in
set_option maxHeartbeats 4000000 in
theorem c_H_needInput (l : Launch) (Z : XZ) (x0 : Int32) (u : PS) (K : PS → Prop) (X : String → PS → Prop) (k : p_H_needInput x0 u K X) : (∃ (rv : Option Value) (u1 : PS), (kV K) rv u1 ∧ XMet l Z i_H_needInput [.int x0] u rv u1) ∨ ∃ (E : String) (u1 : PS), X E u1 ∧ XMt l Z i_H_needInput [.int x0] u E u1 := by
  refine x_metx (by decide) rfl (Nat.le_of_ble_eq_true rfl) ?_
  show XNx l Z i_H_needInput u (kV K) X u 0 [(0, .int x0)] []
  unfold p_H_needInput at k
  by_cases hc1 : x0 < 0
  · have k := k.1 hc1
    rcases t_H_needInput_J10 l Z u u k with ⟨rv, v9, hK, hle_u, w9⟩ | ⟨rv, v9, hK, hle_u, w9⟩
    ·
      refine Or.inl ⟨rv, v9, hK, hle_u, ?_⟩
      intro p e s m args below meth c A H locs ls F hw hl
      obtain ⟨⟨hx, hb, hml, hown, hts⟩, hr, hlocks, hmn⟩ := id F
      refine lv_iload_n hx hb d_H_needInput_0 rfl (lv_at hl 0 rfl) ?_
      refine lv_if_lt (tgt := 10) hx hb d_H_needInput_1 (by decide) (fun _ => ?_) (fun c9 => absurd hc1 c9)
      exact w9 p e s m args below meth c A H locs ls F hw (lv_sub hl [] rfl)
    ·
      refine Or.inr ⟨rv, v9, hK, hle_u, ?_⟩
      intro p e s m args below meth c A H locs ls F hno hw hl
      obtain ⟨⟨hx, hb, hml, hown, hts⟩, hr, hlocks, hmn⟩ := id F
      refine lv_iload_n hx hb d_H_needInput_0 rfl (lv_at hl 0 rfl) ?_
      refine lv_if_lt (tgt := 10) hx hb d_H_needInput_1 (by decide) (fun _ => ?_) (fun c9 => absurd hc1 c9)
      exact w9 p e s m args below meth c A H locs ls F hno hw (lv_sub hl [] rfl)
  · have k := k.2 hc1
    by_cases hc2 : x0 < 10
    · have k := k.1 hc2
      have hle_u : x_le u u := x_le.rf u
      refine Or.inl ⟨none, u, ⟨rfl, k⟩, hle_u, ?_⟩
      intro p e s m args below meth c A H locs ls F hw hl
      obtain ⟨⟨hx, hb, hml, hown, hts⟩, hr, hlocks, hmn⟩ := id F
      refine lv_iload_n hx hb d_H_needInput_0 rfl (lv_at hl 0 rfl) ?_
      refine lv_if_lt (tgt := 10) hx hb d_H_needInput_1 (by decide) (fun c9 => absurd c9 hc1) (fun _ => ?_)
      refine lv_iload_n hx hb d_H_needInput_4 rfl (lv_at hl 0 rfl) ?_
      refine lv_bipush (v := 10) hx hb d_H_needInput_5 (by decide) ?_
      refine lv_icmp_lt (tgt := 20) hx hb d_H_needInput_7 (by decide) (fun _ => ?_) (fun c9 => absurd hc2 c9)
      exact xr_vret F rfl hw d_H_needInput_20
    · have k := k.2 hc2
      rcases t_H_needInput_J10 l Z u u k with ⟨rv, v9, hK, hle_u, w9⟩ | ⟨rv, v9, hK, hle_u, w9⟩
      ·
        refine Or.inl ⟨rv, v9, hK, hle_u, ?_⟩
        intro p e s m args below meth c A H locs ls F hw hl
        obtain ⟨⟨hx, hb, hml, hown, hts⟩, hr, hlocks, hmn⟩ := id F
        refine lv_iload_n hx hb d_H_needInput_0 rfl (lv_at hl 0 rfl) ?_
        refine lv_if_lt (tgt := 10) hx hb d_H_needInput_1 (by decide) (fun c9 => absurd c9 hc1) (fun _ => ?_)
        refine lv_iload_n hx hb d_H_needInput_4 rfl (lv_at hl 0 rfl) ?_
        refine lv_bipush (v := 10) hx hb d_H_needInput_5 (by decide) ?_
        refine lv_icmp_lt (tgt := 20) hx hb d_H_needInput_7 (by decide) (fun c9 => absurd c9 hc2) (fun _ => ?_)
        exact w9 p e s m args below meth c A H locs ls F hw (lv_sub hl [] rfl)
      ·
        refine Or.inr ⟨rv, v9, hK, hle_u, ?_⟩
        intro p e s m args below meth c A H locs ls F hno hw hl
        obtain ⟨⟨hx, hb, hml, hown, hts⟩, hr, hlocks, hmn⟩ := id F
        refine lv_iload_n hx hb d_H_needInput_0 rfl (lv_at hl 0 rfl) ?_
        refine lv_if_lt (tgt := 10) hx hb d_H_needInput_1 (by decide) (fun c9 => absurd c9 hc1) (fun _ => ?_)
        refine lv_iload_n hx hb d_H_needInput_4 rfl (lv_at hl 0 rfl) ?_
        refine lv_bipush (v := 10) hx hb d_H_needInput_5 (by decide) ?_
        refine lv_icmp_lt (tgt := 20) hx hb d_H_needInput_7 (by decide) (fun c9 => absurd c9 hc2) (fun _ => ?_)
        exact w9 p e s m args below meth c A H locs ls F hno hw (lv_sub hl [] rfl)
set_option maxRecDepth 100000 in
set_option maxHeartbeats 4000000 in
theorem c_H_input (l : Launch) (Z : XZ) (x0 : Nat) (x1 : Int32) (x2 : Int32) (u : PS) (K : PS → Prop) (X : String → PS → Prop) (k : p_H_input x0 x1 x2 u K X) : (∃ (rv : Option Value) (u1 : PS), (kV K) rv u1 ∧ XMet l Z i_H_input [.ref x0, .int x1, .int x2] u rv u1) ∨ ∃ (E : String) (u1 : PS), X E u1 ∧ XMt l Z i_H_input [.ref x0, .int x1, .int x2] u E u1 := by
  refine x_metx (by decide) rfl (Nat.le_of_ble_eq_true rfl) ?_
  show XNx l Z i_H_input u (kV K) X u 0 [(0, .ref x0), (1, .int x1), (2, .int x2)] []
  unfold p_H_input at k
  rcases c_H_needPlace l Z x1 u _ _ k with ⟨_, u_7, ⟨rfl, k⟩, hM1⟩ | ⟨E9, u_7, k, hM1⟩
  ·
    rcases c_H_needInput l Z x2 u_7 _ _ k with ⟨_, u_8, ⟨rfl, k⟩, hM2⟩ | ⟨E9, u_8, k, hM2⟩
    ·
      obtain ⟨z_9, h3, k⟩ := k
      obtain ⟨h5, k⟩ := k
      obtain ⟨_, u_10, ⟨rfl, k⟩, hM4⟩ := c_F_setInput l Z z_9 x1 x2 u_8 _ k
      obtain ⟨z_11, h6, k⟩ := k
      obtain ⟨h8, k⟩ := k
      obtain ⟨_, u_12, ⟨rfl, k⟩, hM7⟩ := c_D_functionChanged l Z z_11 x1 u_10 _ k
      have hle_u_12 : x_le u_12 u_12 := x_le.rf u_12
      have hle_u_10 : x_le u_10 u_12 := (hM7.1).tr hle_u_12
      have hle_u_8 : x_le u_8 u_12 := (hM4.1).tr hle_u_10
      have hle_u_7 : x_le u_7 u_12 := (hM2.1).tr hle_u_8
      have hle_u : x_le u u_12 := (hM1.1).tr hle_u_7
      refine Or.inl ⟨none, u_12, ⟨rfl, k⟩, hle_u, ?_⟩
      intro p e s m args below meth c A H locs ls F hw hl
      obtain ⟨⟨hx, hb, hml, hown, hts⟩, hr, hlocks, hmn⟩ := id F
      refine lv_iload_n hx hb d_H_input_0 rfl (lv_at hl 1 rfl) ?_
      refine xr_cS (As := [.int x1]) (rest := []) ⟨hx, hb, hml, hown, hts⟩ hw hM1 hle_u_7 (fun _ _ => ⟨callB_of 1 hts (xgood w_518) rfl rfl rfl (hts _ (xm w_1)) (hts _ (xm w_516)) ⟨by decide, by decide, by decide +kernel⟩ ⟨Nat.le_of_ble_eq_true rfl, Nat.le_of_ble_eq_true rfl⟩, (hts _ (xm w_517))⟩) rfl hl.1 rfl (Nat.le_of_ble_eq_true rfl) d_H_input_1 (fun H locs hw => ?_)
      refine W.eq (g2 := F0 m 4 ls []) rfl ?_
      refine lv_iload_n hx hb d_H_input_4 rfl (lv_at hl 2 rfl) ?_
      refine xr_cS (As := [.int x2]) (rest := []) ⟨hx, hb, hml, hown, hts⟩ hw hM2 hle_u_8 (fun _ _ => ⟨callB_of 1 hts (xgood w_622) rfl rfl rfl (hts _ (xm w_1)) (hts _ (xm w_620)) ⟨by decide, by decide, by decide +kernel⟩ ⟨Nat.le_of_ble_eq_true rfl, Nat.le_of_ble_eq_true rfl⟩, (hts _ (xm w_621))⟩) rfl hl.1 rfl (Nat.le_of_ble_eq_true rfl) d_H_input_5 (fun H locs hw => ?_)
      refine W.eq (g2 := F0 m 8 ls []) rfl ?_
      refine lv_aload_n hx hb d_H_input_8 rfl (lv_at hl 0 rfl) ?_
      refine xr_get hx hb hts (xmu uws_H) hown hw h3 rfl (by decide) (hts _ (xm w_231)) (fun _ h9 => h9) d_H_input_9 ?_
      refine lv_iload_n hx hb d_H_input_12 rfl (lv_at hl 1 rfl) ?_
      refine lv_iload_n hx hb d_H_input_13 rfl (lv_at hl 2 rfl) ?_
      refine xr_cV (As := [.int x1, .int x2]) (rest := []) ⟨hx, hb, hml, hown, hts⟩ hw hM4 hle_u_10 (fun _ _ => ⟨callB_of 2 hts (xgood w_627) rfl rfl rfl (hts _ (xm w_2)) (hts _ (xm w_624)) ⟨by decide, by decide, by decide +kernel⟩ ⟨Nat.le_of_ble_eq_true rfl, Nat.le_of_ble_eq_true rfl⟩, (hts _ (xm w_625)), (hts _ (xm w_626))⟩) (qc := (R_F, F_F, 5)) rfl rfl h5 rfl hl.1 rfl (Nat.le_of_ble_eq_true rfl) d_H_input_14 (fun H locs hw => ?_)
      refine W.eq (g2 := F0 m 17 ls []) rfl ?_
      refine lv_aload_n hx hb d_H_input_17 rfl (lv_at hl 0 rfl) ?_
      refine xr_get hx hb hts (xmu uws_H) hown hw h6 rfl (by decide) (hts _ (xm w_232)) (fun _ h9 => h9) d_H_input_18 ?_
      refine lv_iload_n hx hb d_H_input_21 rfl (lv_at hl 1 rfl) ?_
      refine xr_cV (As := [.int x1]) (rest := []) ⟨hx, hb, hml, hown, hts⟩ hw hM7 hle_u_12 (fun _ _ => ⟨callB_of 1 hts (xgood w_612) rfl rfl rfl (hts _ (xm w_3)) (hts _ (xm w_609)) ⟨by decide, by decide, by decide +kernel⟩ ⟨Nat.le_of_ble_eq_true rfl, Nat.le_of_ble_eq_true rfl⟩, (hts _ (xm w_610)), (hts _ (xm w_611))⟩) (qc := (R_D, F_D, 13)) rfl rfl h8 rfl hl.1 rfl (Nat.le_of_ble_eq_true rfl) d_H_input_22 (fun H locs hw => ?_)
      refine W.eq (g2 := F0 m 25 ls []) rfl ?_
      exact xr_vret F rfl hw d_H_input_25
    ·
      have hle_u_8 : x_le u_8 u_8 := x_le.rf u_8
      have hle_u_7 : x_le u_7 u_8 := (hM2.1).tr hle_u_8
      have hle_u : x_le u u_8 := (hM1.1).tr hle_u_7
      refine Or.inr ⟨E9, u_8, k, hle_u, ?_⟩
      intro p e s m args below meth c A H locs ls F hno hw hl
      obtain ⟨⟨hx, hb, hml, hown, hts⟩, hr, hlocks, hmn⟩ := id F
      refine lv_iload_n hx hb d_H_input_0 rfl (lv_at hl 1 rfl) ?_
      refine xr_cS (As := [.int x1]) (rest := []) ⟨hx, hb, hml, hown, hts⟩ hw hM1 hle_u_7 (fun _ _ => ⟨callB_of 1 hts (xgood w_518) rfl rfl rfl (hts _ (xm w_1)) (hts _ (xm w_516)) ⟨by decide, by decide, by decide +kernel⟩ ⟨Nat.le_of_ble_eq_true rfl, Nat.le_of_ble_eq_true rfl⟩, (hts _ (xm w_517))⟩) rfl hl.1 rfl (Nat.le_of_ble_eq_true rfl) d_H_input_1 (fun H locs hw => ?_)
      refine W.eq (g2 := F0 m 4 ls []) rfl ?_
      refine lv_iload_n hx hb d_H_input_4 rfl (lv_at hl 2 rfl) ?_
      refine xt_cS (As := [.int x2]) (rest := []) ⟨hx, hb, hml, hown, hts⟩ hw hM2 hle_u_8 (fun _ _ => ⟨callB_of 1 hts (xgood w_622) rfl rfl rfl (hts _ (xm w_1)) (hts _ (xm w_620)) ⟨by decide, by decide, by decide +kernel⟩ ⟨Nat.le_of_ble_eq_true rfl, Nat.le_of_ble_eq_true rfl⟩, (hts _ (xm w_621))⟩) rfl hl.1 rfl (Nat.le_of_ble_eq_true rfl) d_H_input_5 (fun q9 ce H locs T9 hw hce hcv hcl hT X9 => ?_)
      exact xt_out F hno hw hce hcv hcl hT X9
  ·
    have hle_u_7 : x_le u_7 u_7 := x_le.rf u_7
    have hle_u : x_le u u_7 := (hM1.1).tr hle_u_7
    refine Or.inr ⟨E9, u_7, k, hle_u, ?_⟩
    intro p e s m args below meth c A H locs ls F hno hw hl
    obtain ⟨⟨hx, hb, hml, hown, hts⟩, hr, hlocks, hmn⟩ := id F
    refine lv_iload_n hx hb d_H_input_0 rfl (lv_at hl 1 rfl) ?_
    refine xt_cS (As := [.int x1]) (rest := []) ⟨hx, hb, hml, hown, hts⟩ hw hM1 hle_u_7 (fun _ _ => ⟨callB_of 1 hts (xgood w_518) rfl rfl rfl (hts _ (xm w_1)) (hts _ (xm w_516)) ⟨by decide, by decide, by decide +kernel⟩ ⟨Nat.le_of_ble_eq_true rfl, Nat.le_of_ble_eq_true rfl⟩, (hts _ (xm w_517))⟩) rfl hl.1 rfl (Nat.le_of_ble_eq_true rfl) d_H_input_1 (fun q9 ce H locs T9 hw hce hcv hcl hT X9 => ?_)
    exact xt_out F hno hw hce hcv hcl hT X9
set_option maxRecDepth 100000 in
set_option maxHeartbeats 4000000 in
theorem t_H_needPlaces_J30 (l : Launch) (Z : XZ) (u0 : PS) {K : PS → Prop} {X : String → PS → Prop} (u : PS) (k : (p_H_needPlaces_J30 K X u)) : XNx l Z i_H_needPlaces u0 (kV K) X u 30 [] [] := by
  unfold p_H_needPlaces_J30 at k
  have hle_u : x_le u (x_th u) := x_th.le u
  refine Or.inr ⟨"java/lang/IndexOutOfBoundsException", (x_th u), k, hle_u, ?_⟩
  intro p e s m args below meth c A H locs ls F hno hw hl
  obtain ⟨⟨hx, hb, hml, hown, hts⟩, hr, hlocks, hmn⟩ := id F
  obtain ⟨sa9, hsa9⟩ := xt_text hw.2.2.2.2.2.1 (own := "DiagramHouse") (k := 132) (tx := "no such place") (List.mem_of_getElem? (i := 559) (by decide +kernel)) (by decide +kernel)
  exact xt_throw (cls := "java/lang/IndexOutOfBoundsException") (text := "no such place") (names := ["java/lang/RuntimeException", "java/lang/Exception"]) (ik := 93) (is := 132) (ic := 97) F hno hw (by decide +kernel) (by decide +kernel) (hts _ (xm w_519)) (hts _ (xm w_12)) rfl rfl hsa9 (fun w9 h9 => (oa_H_97 w9 h9).imp (fun h8 => ⟨hts _ (xm (List.mem_filter.mpr h8)), h8.2⟩) id) (hl.1.trans hml.symm) d_H_needPlaces_30 d_H_needPlaces_33 d_H_needPlaces_34 d_H_needPlaces_36 d_H_needPlaces_39 (by decide) (by decide)
set_option maxRecDepth 100000 in
set_option maxHeartbeats 4000000 in
theorem c_H_needPlaces (l : Launch) (Z : XZ) (x0 : Int32) (x1 : Int32) (x2 : Int32) (u : PS) (K : PS → Prop) (X : String → PS → Prop) (k : p_H_needPlaces x0 x1 x2 u K X) : (∃ (rv : Option Value) (u1 : PS), (kV K) rv u1 ∧ XMet l Z i_H_needPlaces [.int x0, .int x1, .int x2] u rv u1) ∨ ∃ (E : String) (u1 : PS), X E u1 ∧ XMt l Z i_H_needPlaces [.int x0, .int x1, .int x2] u E u1 := by
  refine x_metx (by decide) rfl (Nat.le_of_ble_eq_true rfl) ?_
  show XNx l Z i_H_needPlaces u (kV K) X u 0 [(0, .int x0), (1, .int x1), (2, .int x2)] []
  unfold p_H_needPlaces at k
  by_cases hc1 : x0 < 0
  · have k := k.1 hc1
    rcases t_H_needPlaces_J30 l Z u u k with ⟨rv, v9, hK, hle_u, w9⟩ | ⟨rv, v9, hK, hle_u, w9⟩
    ·
      refine Or.inl ⟨rv, v9, hK, hle_u, ?_⟩
      intro p e s m args below meth c A H locs ls F hw hl
      obtain ⟨⟨hx, hb, hml, hown, hts⟩, hr, hlocks, hmn⟩ := id F
      refine lv_iload_n hx hb d_H_needPlaces_0 rfl (lv_at hl 0 rfl) ?_
      refine lv_if_lt (tgt := 30) hx hb d_H_needPlaces_1 (by decide) (fun _ => ?_) (fun c9 => absurd hc1 c9)
      exact w9 p e s m args below meth c A H locs ls F hw (lv_sub hl [] rfl)
    ·
      refine Or.inr ⟨rv, v9, hK, hle_u, ?_⟩
      intro p e s m args below meth c A H locs ls F hno hw hl
      obtain ⟨⟨hx, hb, hml, hown, hts⟩, hr, hlocks, hmn⟩ := id F
      refine lv_iload_n hx hb d_H_needPlaces_0 rfl (lv_at hl 0 rfl) ?_
      refine lv_if_lt (tgt := 30) hx hb d_H_needPlaces_1 (by decide) (fun _ => ?_) (fun c9 => absurd hc1 c9)
      exact w9 p e s m args below meth c A H locs ls F hno hw (lv_sub hl [] rfl)
  · have k := k.2 hc1
    by_cases hc2 : 24 ≤ x0
    · have k := k.1 hc2
      rcases t_H_needPlaces_J30 l Z u u k with ⟨rv, v9, hK, hle_u, w9⟩ | ⟨rv, v9, hK, hle_u, w9⟩
      ·
        refine Or.inl ⟨rv, v9, hK, hle_u, ?_⟩
        intro p e s m args below meth c A H locs ls F hw hl
        obtain ⟨⟨hx, hb, hml, hown, hts⟩, hr, hlocks, hmn⟩ := id F
        refine lv_iload_n hx hb d_H_needPlaces_0 rfl (lv_at hl 0 rfl) ?_
        refine lv_if_lt (tgt := 30) hx hb d_H_needPlaces_1 (by decide) (fun c9 => absurd c9 hc1) (fun _ => ?_)
        refine lv_iload_n hx hb d_H_needPlaces_4 rfl (lv_at hl 0 rfl) ?_
        refine lv_bipush (v := 24) hx hb d_H_needPlaces_5 (by decide) ?_
        refine lv_icmp_ge (tgt := 30) hx hb d_H_needPlaces_7 (by decide) (fun _ => ?_) (fun c9 => absurd hc2 c9)
        exact w9 p e s m args below meth c A H locs ls F hw (lv_sub hl [] rfl)
      ·
        refine Or.inr ⟨rv, v9, hK, hle_u, ?_⟩
        intro p e s m args below meth c A H locs ls F hno hw hl
        obtain ⟨⟨hx, hb, hml, hown, hts⟩, hr, hlocks, hmn⟩ := id F
        refine lv_iload_n hx hb d_H_needPlaces_0 rfl (lv_at hl 0 rfl) ?_
        refine lv_if_lt (tgt := 30) hx hb d_H_needPlaces_1 (by decide) (fun c9 => absurd c9 hc1) (fun _ => ?_)
        refine lv_iload_n hx hb d_H_needPlaces_4 rfl (lv_at hl 0 rfl) ?_
        refine lv_bipush (v := 24) hx hb d_H_needPlaces_5 (by decide) ?_
        refine lv_icmp_ge (tgt := 30) hx hb d_H_needPlaces_7 (by decide) (fun _ => ?_) (fun c9 => absurd hc2 c9)
        exact w9 p e s m args below meth c A H locs ls F hno hw (lv_sub hl [] rfl)
    · have k := k.2 hc2
      by_cases hc3 : x1 < 0
      · have k := k.1 hc3
        rcases t_H_needPlaces_J30 l Z u u k with ⟨rv, v9, hK, hle_u, w9⟩ | ⟨rv, v9, hK, hle_u, w9⟩
        ·
          refine Or.inl ⟨rv, v9, hK, hle_u, ?_⟩
          intro p e s m args below meth c A H locs ls F hw hl
          obtain ⟨⟨hx, hb, hml, hown, hts⟩, hr, hlocks, hmn⟩ := id F
          refine lv_iload_n hx hb d_H_needPlaces_0 rfl (lv_at hl 0 rfl) ?_
          refine lv_if_lt (tgt := 30) hx hb d_H_needPlaces_1 (by decide) (fun c9 => absurd c9 hc1) (fun _ => ?_)
          refine lv_iload_n hx hb d_H_needPlaces_4 rfl (lv_at hl 0 rfl) ?_
          refine lv_bipush (v := 24) hx hb d_H_needPlaces_5 (by decide) ?_
          refine lv_icmp_ge (tgt := 30) hx hb d_H_needPlaces_7 (by decide) (fun c9 => absurd c9 hc2) (fun _ => ?_)
          refine lv_iload_n hx hb d_H_needPlaces_10 rfl (lv_at hl 1 rfl) ?_
          refine lv_if_lt (tgt := 30) hx hb d_H_needPlaces_11 (by decide) (fun _ => ?_) (fun c9 => absurd hc3 c9)
          exact w9 p e s m args below meth c A H locs ls F hw (lv_sub hl [] rfl)
        ·
          refine Or.inr ⟨rv, v9, hK, hle_u, ?_⟩
          intro p e s m args below meth c A H locs ls F hno hw hl
          obtain ⟨⟨hx, hb, hml, hown, hts⟩, hr, hlocks, hmn⟩ := id F
          refine lv_iload_n hx hb d_H_needPlaces_0 rfl (lv_at hl 0 rfl) ?_
          refine lv_if_lt (tgt := 30) hx hb d_H_needPlaces_1 (by decide) (fun c9 => absurd c9 hc1) (fun _ => ?_)
          refine lv_iload_n hx hb d_H_needPlaces_4 rfl (lv_at hl 0 rfl) ?_
          refine lv_bipush (v := 24) hx hb d_H_needPlaces_5 (by decide) ?_
          refine lv_icmp_ge (tgt := 30) hx hb d_H_needPlaces_7 (by decide) (fun c9 => absurd c9 hc2) (fun _ => ?_)
          refine lv_iload_n hx hb d_H_needPlaces_10 rfl (lv_at hl 1 rfl) ?_
          refine lv_if_lt (tgt := 30) hx hb d_H_needPlaces_11 (by decide) (fun _ => ?_) (fun c9 => absurd hc3 c9)
          exact w9 p e s m args below meth c A H locs ls F hno hw (lv_sub hl [] rfl)
      · have k := k.2 hc3
        by_cases hc4 : 24 ≤ x1
        · have k := k.1 hc4
          rcases t_H_needPlaces_J30 l Z u u k with ⟨rv, v9, hK, hle_u, w9⟩ | ⟨rv, v9, hK, hle_u, w9⟩
          ·
            refine Or.inl ⟨rv, v9, hK, hle_u, ?_⟩
            intro p e s m args below meth c A H locs ls F hw hl
            obtain ⟨⟨hx, hb, hml, hown, hts⟩, hr, hlocks, hmn⟩ := id F
            refine lv_iload_n hx hb d_H_needPlaces_0 rfl (lv_at hl 0 rfl) ?_
            refine lv_if_lt (tgt := 30) hx hb d_H_needPlaces_1 (by decide) (fun c9 => absurd c9 hc1) (fun _ => ?_)
            refine lv_iload_n hx hb d_H_needPlaces_4 rfl (lv_at hl 0 rfl) ?_
            refine lv_bipush (v := 24) hx hb d_H_needPlaces_5 (by decide) ?_
            refine lv_icmp_ge (tgt := 30) hx hb d_H_needPlaces_7 (by decide) (fun c9 => absurd c9 hc2) (fun _ => ?_)
            refine lv_iload_n hx hb d_H_needPlaces_10 rfl (lv_at hl 1 rfl) ?_
            refine lv_if_lt (tgt := 30) hx hb d_H_needPlaces_11 (by decide) (fun c9 => absurd c9 hc3) (fun _ => ?_)
            refine lv_iload_n hx hb d_H_needPlaces_14 rfl (lv_at hl 1 rfl) ?_
            refine lv_bipush (v := 24) hx hb d_H_needPlaces_15 (by decide) ?_
            refine lv_icmp_ge (tgt := 30) hx hb d_H_needPlaces_17 (by decide) (fun _ => ?_) (fun c9 => absurd hc4 c9)
            exact w9 p e s m args below meth c A H locs ls F hw (lv_sub hl [] rfl)
          ·
            refine Or.inr ⟨rv, v9, hK, hle_u, ?_⟩
            intro p e s m args below meth c A H locs ls F hno hw hl
            obtain ⟨⟨hx, hb, hml, hown, hts⟩, hr, hlocks, hmn⟩ := id F
            refine lv_iload_n hx hb d_H_needPlaces_0 rfl (lv_at hl 0 rfl) ?_
            refine lv_if_lt (tgt := 30) hx hb d_H_needPlaces_1 (by decide) (fun c9 => absurd c9 hc1) (fun _ => ?_)
            refine lv_iload_n hx hb d_H_needPlaces_4 rfl (lv_at hl 0 rfl) ?_
            refine lv_bipush (v := 24) hx hb d_H_needPlaces_5 (by decide) ?_
            refine lv_icmp_ge (tgt := 30) hx hb d_H_needPlaces_7 (by decide) (fun c9 => absurd c9 hc2) (fun _ => ?_)
            refine lv_iload_n hx hb d_H_needPlaces_10 rfl (lv_at hl 1 rfl) ?_
            refine lv_if_lt (tgt := 30) hx hb d_H_needPlaces_11 (by decide) (fun c9 => absurd c9 hc3) (fun _ => ?_)
            refine lv_iload_n hx hb d_H_needPlaces_14 rfl (lv_at hl 1 rfl) ?_
            refine lv_bipush (v := 24) hx hb d_H_needPlaces_15 (by decide) ?_
            refine lv_icmp_ge (tgt := 30) hx hb d_H_needPlaces_17 (by decide) (fun _ => ?_) (fun c9 => absurd hc4 c9)
            exact w9 p e s m args below meth c A H locs ls F hno hw (lv_sub hl [] rfl)
        · have k := k.2 hc4
          by_cases hc5 : x2 < 0
          · have k := k.1 hc5
            rcases t_H_needPlaces_J30 l Z u u k with ⟨rv, v9, hK, hle_u, w9⟩ | ⟨rv, v9, hK, hle_u, w9⟩
            ·
              refine Or.inl ⟨rv, v9, hK, hle_u, ?_⟩
              intro p e s m args below meth c A H locs ls F hw hl
              obtain ⟨⟨hx, hb, hml, hown, hts⟩, hr, hlocks, hmn⟩ := id F
              refine lv_iload_n hx hb d_H_needPlaces_0 rfl (lv_at hl 0 rfl) ?_
              refine lv_if_lt (tgt := 30) hx hb d_H_needPlaces_1 (by decide) (fun c9 => absurd c9 hc1) (fun _ => ?_)
              refine lv_iload_n hx hb d_H_needPlaces_4 rfl (lv_at hl 0 rfl) ?_
              refine lv_bipush (v := 24) hx hb d_H_needPlaces_5 (by decide) ?_
              refine lv_icmp_ge (tgt := 30) hx hb d_H_needPlaces_7 (by decide) (fun c9 => absurd c9 hc2) (fun _ => ?_)
              refine lv_iload_n hx hb d_H_needPlaces_10 rfl (lv_at hl 1 rfl) ?_
              refine lv_if_lt (tgt := 30) hx hb d_H_needPlaces_11 (by decide) (fun c9 => absurd c9 hc3) (fun _ => ?_)
              refine lv_iload_n hx hb d_H_needPlaces_14 rfl (lv_at hl 1 rfl) ?_
              refine lv_bipush (v := 24) hx hb d_H_needPlaces_15 (by decide) ?_
              refine lv_icmp_ge (tgt := 30) hx hb d_H_needPlaces_17 (by decide) (fun c9 => absurd c9 hc4) (fun _ => ?_)
              refine lv_iload_n hx hb d_H_needPlaces_20 rfl (lv_at hl 2 rfl) ?_
              refine lv_if_lt (tgt := 30) hx hb d_H_needPlaces_21 (by decide) (fun _ => ?_) (fun c9 => absurd hc5 c9)
              exact w9 p e s m args below meth c A H locs ls F hw (lv_sub hl [] rfl)
            ·
              refine Or.inr ⟨rv, v9, hK, hle_u, ?_⟩
              intro p e s m args below meth c A H locs ls F hno hw hl
              obtain ⟨⟨hx, hb, hml, hown, hts⟩, hr, hlocks, hmn⟩ := id F
              refine lv_iload_n hx hb d_H_needPlaces_0 rfl (lv_at hl 0 rfl) ?_
              refine lv_if_lt (tgt := 30) hx hb d_H_needPlaces_1 (by decide) (fun c9 => absurd c9 hc1) (fun _ => ?_)
              refine lv_iload_n hx hb d_H_needPlaces_4 rfl (lv_at hl 0 rfl) ?_
              refine lv_bipush (v := 24) hx hb d_H_needPlaces_5 (by decide) ?_
              refine lv_icmp_ge (tgt := 30) hx hb d_H_needPlaces_7 (by decide) (fun c9 => absurd c9 hc2) (fun _ => ?_)
              refine lv_iload_n hx hb d_H_needPlaces_10 rfl (lv_at hl 1 rfl) ?_
              refine lv_if_lt (tgt := 30) hx hb d_H_needPlaces_11 (by decide) (fun c9 => absurd c9 hc3) (fun _ => ?_)
              refine lv_iload_n hx hb d_H_needPlaces_14 rfl (lv_at hl 1 rfl) ?_
              refine lv_bipush (v := 24) hx hb d_H_needPlaces_15 (by decide) ?_
              refine lv_icmp_ge (tgt := 30) hx hb d_H_needPlaces_17 (by decide) (fun c9 => absurd c9 hc4) (fun _ => ?_)
              refine lv_iload_n hx hb d_H_needPlaces_20 rfl (lv_at hl 2 rfl) ?_
              refine lv_if_lt (tgt := 30) hx hb d_H_needPlaces_21 (by decide) (fun _ => ?_) (fun c9 => absurd hc5 c9)
              exact w9 p e s m args below meth c A H locs ls F hno hw (lv_sub hl [] rfl)
          · have k := k.2 hc5
            by_cases hc6 : x2 < 24
            · have k := k.1 hc6
              have hle_u : x_le u u := x_le.rf u
              refine Or.inl ⟨none, u, ⟨rfl, k⟩, hle_u, ?_⟩
              intro p e s m args below meth c A H locs ls F hw hl
              obtain ⟨⟨hx, hb, hml, hown, hts⟩, hr, hlocks, hmn⟩ := id F
              refine lv_iload_n hx hb d_H_needPlaces_0 rfl (lv_at hl 0 rfl) ?_
              refine lv_if_lt (tgt := 30) hx hb d_H_needPlaces_1 (by decide) (fun c9 => absurd c9 hc1) (fun _ => ?_)
              refine lv_iload_n hx hb d_H_needPlaces_4 rfl (lv_at hl 0 rfl) ?_
              refine lv_bipush (v := 24) hx hb d_H_needPlaces_5 (by decide) ?_
              refine lv_icmp_ge (tgt := 30) hx hb d_H_needPlaces_7 (by decide) (fun c9 => absurd c9 hc2) (fun _ => ?_)
              refine lv_iload_n hx hb d_H_needPlaces_10 rfl (lv_at hl 1 rfl) ?_
              refine lv_if_lt (tgt := 30) hx hb d_H_needPlaces_11 (by decide) (fun c9 => absurd c9 hc3) (fun _ => ?_)
              refine lv_iload_n hx hb d_H_needPlaces_14 rfl (lv_at hl 1 rfl) ?_
              refine lv_bipush (v := 24) hx hb d_H_needPlaces_15 (by decide) ?_
              refine lv_icmp_ge (tgt := 30) hx hb d_H_needPlaces_17 (by decide) (fun c9 => absurd c9 hc4) (fun _ => ?_)
              refine lv_iload_n hx hb d_H_needPlaces_20 rfl (lv_at hl 2 rfl) ?_
              refine lv_if_lt (tgt := 30) hx hb d_H_needPlaces_21 (by decide) (fun c9 => absurd c9 hc5) (fun _ => ?_)
              refine lv_iload_n hx hb d_H_needPlaces_24 rfl (lv_at hl 2 rfl) ?_
              refine lv_bipush (v := 24) hx hb d_H_needPlaces_25 (by decide) ?_
              refine lv_icmp_lt (tgt := 40) hx hb d_H_needPlaces_27 (by decide) (fun _ => ?_) (fun c9 => absurd hc6 c9)
              exact xr_vret F rfl hw d_H_needPlaces_40
            · have k := k.2 hc6
              rcases t_H_needPlaces_J30 l Z u u k with ⟨rv, v9, hK, hle_u, w9⟩ | ⟨rv, v9, hK, hle_u, w9⟩
              ·
                refine Or.inl ⟨rv, v9, hK, hle_u, ?_⟩
                intro p e s m args below meth c A H locs ls F hw hl
                obtain ⟨⟨hx, hb, hml, hown, hts⟩, hr, hlocks, hmn⟩ := id F
                refine lv_iload_n hx hb d_H_needPlaces_0 rfl (lv_at hl 0 rfl) ?_
                refine lv_if_lt (tgt := 30) hx hb d_H_needPlaces_1 (by decide) (fun c9 => absurd c9 hc1) (fun _ => ?_)
                refine lv_iload_n hx hb d_H_needPlaces_4 rfl (lv_at hl 0 rfl) ?_
                refine lv_bipush (v := 24) hx hb d_H_needPlaces_5 (by decide) ?_
                refine lv_icmp_ge (tgt := 30) hx hb d_H_needPlaces_7 (by decide) (fun c9 => absurd c9 hc2) (fun _ => ?_)
                refine lv_iload_n hx hb d_H_needPlaces_10 rfl (lv_at hl 1 rfl) ?_
                refine lv_if_lt (tgt := 30) hx hb d_H_needPlaces_11 (by decide) (fun c9 => absurd c9 hc3) (fun _ => ?_)
                refine lv_iload_n hx hb d_H_needPlaces_14 rfl (lv_at hl 1 rfl) ?_
                refine lv_bipush (v := 24) hx hb d_H_needPlaces_15 (by decide) ?_
                refine lv_icmp_ge (tgt := 30) hx hb d_H_needPlaces_17 (by decide) (fun c9 => absurd c9 hc4) (fun _ => ?_)
                refine lv_iload_n hx hb d_H_needPlaces_20 rfl (lv_at hl 2 rfl) ?_
                refine lv_if_lt (tgt := 30) hx hb d_H_needPlaces_21 (by decide) (fun c9 => absurd c9 hc5) (fun _ => ?_)
                refine lv_iload_n hx hb d_H_needPlaces_24 rfl (lv_at hl 2 rfl) ?_
                refine lv_bipush (v := 24) hx hb d_H_needPlaces_25 (by decide) ?_
                refine lv_icmp_lt (tgt := 40) hx hb d_H_needPlaces_27 (by decide) (fun c9 => absurd c9 hc6) (fun _ => ?_)
                exact w9 p e s m args below meth c A H locs ls F hw (lv_sub hl [] rfl)
              ·
                refine Or.inr ⟨rv, v9, hK, hle_u, ?_⟩
                intro p e s m args below meth c A H locs ls F hno hw hl
                obtain ⟨⟨hx, hb, hml, hown, hts⟩, hr, hlocks, hmn⟩ := id F
                refine lv_iload_n hx hb d_H_needPlaces_0 rfl (lv_at hl 0 rfl) ?_
                refine lv_if_lt (tgt := 30) hx hb d_H_needPlaces_1 (by decide) (fun c9 => absurd c9 hc1) (fun _ => ?_)
                refine lv_iload_n hx hb d_H_needPlaces_4 rfl (lv_at hl 0 rfl) ?_
                refine lv_bipush (v := 24) hx hb d_H_needPlaces_5 (by decide) ?_
                refine lv_icmp_ge (tgt := 30) hx hb d_H_needPlaces_7 (by decide) (fun c9 => absurd c9 hc2) (fun _ => ?_)
                refine lv_iload_n hx hb d_H_needPlaces_10 rfl (lv_at hl 1 rfl) ?_
                refine lv_if_lt (tgt := 30) hx hb d_H_needPlaces_11 (by decide) (fun c9 => absurd c9 hc3) (fun _ => ?_)
                refine lv_iload_n hx hb d_H_needPlaces_14 rfl (lv_at hl 1 rfl) ?_
                refine lv_bipush (v := 24) hx hb d_H_needPlaces_15 (by decide) ?_
                refine lv_icmp_ge (tgt := 30) hx hb d_H_needPlaces_17 (by decide) (fun c9 => absurd c9 hc4) (fun _ => ?_)
                refine lv_iload_n hx hb d_H_needPlaces_20 rfl (lv_at hl 2 rfl) ?_
                refine lv_if_lt (tgt := 30) hx hb d_H_needPlaces_21 (by decide) (fun c9 => absurd c9 hc5) (fun _ => ?_)
                refine lv_iload_n hx hb d_H_needPlaces_24 rfl (lv_at hl 2 rfl) ?_
                refine lv_bipush (v := 24) hx hb d_H_needPlaces_25 (by decide) ?_
                refine lv_icmp_lt (tgt := 40) hx hb d_H_needPlaces_27 (by decide) (fun c9 => absurd c9 hc6) (fun _ => ?_)
                exact w9 p e s m args below meth c A H locs ls F hno hw (lv_sub hl [] rfl)
set_option maxRecDepth 100000 in
set_option maxHeartbeats 4000000 in
theorem t_H_needBelow_J9 (l : Launch) (Z : XZ) (u0 : PS) {K : PS → Prop} {X : String → PS → Prop} (u : PS) (k : (p_H_needBelow_J9 K X u)) : XNx l Z i_H_needBelow u0 (kV K) X u 9 [] [] := by
  unfold p_H_needBelow_J9 at k
  have hle_u : x_le u (x_th u) := x_th.le u
  refine Or.inr ⟨"java/lang/IllegalArgumentException", (x_th u), k, hle_u, ?_⟩
  intro p e s m args below meth c A H locs ls F hno hw hl
  obtain ⟨⟨hx, hb, hml, hown, hts⟩, hr, hlocks, hmn⟩ := id F
  obtain ⟨sa9, hsa9⟩ := xt_text hw.2.2.2.2.2.1 (own := "DiagramHouse") (k := 141) (tx := "number out of range") (List.mem_of_getElem? (i := 641) (by decide +kernel)) (by decide +kernel)
  exact xt_throw (cls := "java/lang/IllegalArgumentException") (text := "number out of range") (names := ["java/lang/RuntimeException", "java/lang/Exception"]) (ik := 134) (is := 141) (ic := 138) F hno hw (by decide +kernel) (by decide +kernel) (hts _ (xm w_589)) (hts _ (xm w_13)) rfl rfl hsa9 (fun w9 h9 => (oa_H_138 w9 h9).imp (fun h8 => ⟨hts _ (xm (List.mem_filter.mpr h8)), h8.2⟩) id) (hl.1.trans hml.symm) d_H_needBelow_9 d_H_needBelow_12 d_H_needBelow_13 d_H_needBelow_15 d_H_needBelow_18 (by decide) (by decide)
set_option maxRecDepth 100000 in
set_option maxHeartbeats 4000000 in
theorem c_H_needBelow (l : Launch) (Z : XZ) (x0 : Int32) (x1 : Int32) (u : PS) (K : PS → Prop) (X : String → PS → Prop) (k : p_H_needBelow x0 x1 u K X) : (∃ (rv : Option Value) (u1 : PS), (kV K) rv u1 ∧ XMet l Z i_H_needBelow [.int x0, .int x1] u rv u1) ∨ ∃ (E : String) (u1 : PS), X E u1 ∧ XMt l Z i_H_needBelow [.int x0, .int x1] u E u1 := by
  refine x_metx (by decide) rfl (Nat.le_of_ble_eq_true rfl) ?_
  show XNx l Z i_H_needBelow u (kV K) X u 0 [(0, .int x0), (1, .int x1)] []
  unfold p_H_needBelow at k
  by_cases hc1 : x0 < 0
  · have k := k.1 hc1
    rcases t_H_needBelow_J9 l Z u u k with ⟨rv, v9, hK, hle_u, w9⟩ | ⟨rv, v9, hK, hle_u, w9⟩
    ·
      refine Or.inl ⟨rv, v9, hK, hle_u, ?_⟩
      intro p e s m args below meth c A H locs ls F hw hl
      obtain ⟨⟨hx, hb, hml, hown, hts⟩, hr, hlocks, hmn⟩ := id F
      refine lv_iload_n hx hb d_H_needBelow_0 rfl (lv_at hl 0 rfl) ?_
      refine lv_if_lt (tgt := 9) hx hb d_H_needBelow_1 (by decide) (fun _ => ?_) (fun c9 => absurd hc1 c9)
      exact w9 p e s m args below meth c A H locs ls F hw (lv_sub hl [] rfl)
    ·
      refine Or.inr ⟨rv, v9, hK, hle_u, ?_⟩
      intro p e s m args below meth c A H locs ls F hno hw hl
      obtain ⟨⟨hx, hb, hml, hown, hts⟩, hr, hlocks, hmn⟩ := id F
      refine lv_iload_n hx hb d_H_needBelow_0 rfl (lv_at hl 0 rfl) ?_
      refine lv_if_lt (tgt := 9) hx hb d_H_needBelow_1 (by decide) (fun _ => ?_) (fun c9 => absurd hc1 c9)
      exact w9 p e s m args below meth c A H locs ls F hno hw (lv_sub hl [] rfl)
  · have k := k.2 hc1
    by_cases hc2 : x0 < x1
    · have k := k.1 hc2
      have hle_u : x_le u u := x_le.rf u
      refine Or.inl ⟨none, u, ⟨rfl, k⟩, hle_u, ?_⟩
      intro p e s m args below meth c A H locs ls F hw hl
      obtain ⟨⟨hx, hb, hml, hown, hts⟩, hr, hlocks, hmn⟩ := id F
      refine lv_iload_n hx hb d_H_needBelow_0 rfl (lv_at hl 0 rfl) ?_
      refine lv_if_lt (tgt := 9) hx hb d_H_needBelow_1 (by decide) (fun c9 => absurd c9 hc1) (fun _ => ?_)
      refine lv_iload_n hx hb d_H_needBelow_4 rfl (lv_at hl 0 rfl) ?_
      refine lv_iload_n hx hb d_H_needBelow_5 rfl (lv_at hl 1 rfl) ?_
      refine lv_icmp_lt (tgt := 19) hx hb d_H_needBelow_6 (by decide) (fun _ => ?_) (fun c9 => absurd hc2 c9)
      exact xr_vret F rfl hw d_H_needBelow_19
    · have k := k.2 hc2
      rcases t_H_needBelow_J9 l Z u u k with ⟨rv, v9, hK, hle_u, w9⟩ | ⟨rv, v9, hK, hle_u, w9⟩
      ·
        refine Or.inl ⟨rv, v9, hK, hle_u, ?_⟩
        intro p e s m args below meth c A H locs ls F hw hl
        obtain ⟨⟨hx, hb, hml, hown, hts⟩, hr, hlocks, hmn⟩ := id F
        refine lv_iload_n hx hb d_H_needBelow_0 rfl (lv_at hl 0 rfl) ?_
        refine lv_if_lt (tgt := 9) hx hb d_H_needBelow_1 (by decide) (fun c9 => absurd c9 hc1) (fun _ => ?_)
        refine lv_iload_n hx hb d_H_needBelow_4 rfl (lv_at hl 0 rfl) ?_
        refine lv_iload_n hx hb d_H_needBelow_5 rfl (lv_at hl 1 rfl) ?_
        refine lv_icmp_lt (tgt := 19) hx hb d_H_needBelow_6 (by decide) (fun c9 => absurd c9 hc2) (fun _ => ?_)
        exact w9 p e s m args below meth c A H locs ls F hw (lv_sub hl [] rfl)
      ·
        refine Or.inr ⟨rv, v9, hK, hle_u, ?_⟩
        intro p e s m args below meth c A H locs ls F hno hw hl
        obtain ⟨⟨hx, hb, hml, hown, hts⟩, hr, hlocks, hmn⟩ := id F
        refine lv_iload_n hx hb d_H_needBelow_0 rfl (lv_at hl 0 rfl) ?_
        refine lv_if_lt (tgt := 9) hx hb d_H_needBelow_1 (by decide) (fun c9 => absurd c9 hc1) (fun _ => ?_)
        refine lv_iload_n hx hb d_H_needBelow_4 rfl (lv_at hl 0 rfl) ?_
        refine lv_iload_n hx hb d_H_needBelow_5 rfl (lv_at hl 1 rfl) ?_
        refine lv_icmp_lt (tgt := 19) hx hb d_H_needBelow_6 (by decide) (fun c9 => absurd c9 hc2) (fun _ => ?_)
        exact w9 p e s m args below meth c A H locs ls F hno hw (lv_sub hl [] rfl)
set_option maxRecDepth 100000 in
set_option maxHeartbeats 4000000 in
theorem c_H_make (l : Launch) (Z : XZ) (x0 : Nat) (x1 : Int32) (x2 : Int32) (x3 : Int32) (x4 : Int32) (u : PS) (K : PS → Prop) (X : String → PS → Prop) (k : p_H_make x0 x1 x2 x3 x4 u K X) : (∃ (rv : Option Value) (u1 : PS), (kV K) rv u1 ∧ XMet l Z i_H_make [.ref x0, .int x1, .int x2, .int x3, .int x4] u rv u1) ∨ ∃ (E : String) (u1 : PS), X E u1 ∧ XMt l Z i_H_make [.ref x0, .int x1, .int x2, .int x3, .int x4] u E u1 := by
  refine x_metx (by decide) rfl (Nat.le_of_ble_eq_true rfl) ?_
  show XNx l Z i_H_make u (kV K) X u 0 [(0, .ref x0), (1, .int x1), (2, .int x2), (3, .int x3), (4, .int x4)] []
  unfold p_H_make at k
  rcases c_H_needPlaces l Z x1 x3 x4 u _ _ k with ⟨_, u_7, ⟨rfl, k⟩, hM1⟩ | ⟨E9, u_7, k, hM1⟩
  ·
    rcases c_H_needBelow l Z x2 (6 : Int32) u_7 _ _ k with ⟨_, u_8, ⟨rfl, k⟩, hM2⟩ | ⟨E9, u_8, k, hM2⟩
    ·
      obtain ⟨z_9, h3, k⟩ := k
      obtain ⟨h5, k⟩ := k
      obtain ⟨_, u_10, ⟨rfl, k⟩, hM4⟩ := c_F_join l Z z_9 x1 x2 x3 x4 u_8 _ k
      obtain ⟨z_11, h6, k⟩ := k
      obtain ⟨h8, k⟩ := k
      obtain ⟨_, u_12, ⟨rfl, k⟩, hM7⟩ := c_D_functionChanged l Z z_11 x1 u_10 _ k
      have hle_u_12 : x_le u_12 u_12 := x_le.rf u_12
      have hle_u_10 : x_le u_10 u_12 := (hM7.1).tr hle_u_12
      have hle_u_8 : x_le u_8 u_12 := (hM4.1).tr hle_u_10
      have hle_u_7 : x_le u_7 u_12 := (hM2.1).tr hle_u_8
      have hle_u : x_le u u_12 := (hM1.1).tr hle_u_7
      refine Or.inl ⟨none, u_12, ⟨rfl, k⟩, hle_u, ?_⟩
      intro p e s m args below meth c A H locs ls F hw hl
      obtain ⟨⟨hx, hb, hml, hown, hts⟩, hr, hlocks, hmn⟩ := id F
      refine lv_iload_n hx hb d_H_make_0 rfl (lv_at hl 1 rfl) ?_
      refine lv_iload_n hx hb d_H_make_1 rfl (lv_at hl 3 rfl) ?_
      refine lv_iload hx hb d_H_make_2 (lv_at hl 4 rfl) ?_
      refine xr_cS (As := [.int x1, .int x3, .int x4]) (rest := []) ⟨hx, hb, hml, hown, hts⟩ hw hM1 hle_u_7 (fun _ _ => ⟨callB_of 3 hts (xgood w_637) rfl rfl rfl (hts _ (xm w_1)) (hts _ (xm w_635)) ⟨by decide, by decide, by decide +kernel⟩ ⟨Nat.le_of_ble_eq_true rfl, Nat.le_of_ble_eq_true rfl⟩, (hts _ (xm w_636))⟩) rfl hl.1 rfl (Nat.le_of_ble_eq_true rfl) d_H_make_4 (fun H locs hw => ?_)
      refine W.eq (g2 := F0 m 7 ls []) rfl ?_
      refine lv_iload_n hx hb d_H_make_7 rfl (lv_at hl 2 rfl) ?_
      refine lv_bipush (v := 6) hx hb d_H_make_8 (by decide) ?_
      refine xr_cS (As := [.int x2, .int 6]) (rest := []) ⟨hx, hb, hml, hown, hts⟩ hw hM2 hle_u_8 (fun _ _ => ⟨callB_of 2 hts (xgood w_640) rfl rfl rfl (hts _ (xm w_1)) (hts _ (xm w_638)) ⟨by decide, by decide, by decide +kernel⟩ ⟨Nat.le_of_ble_eq_true rfl, Nat.le_of_ble_eq_true rfl⟩, (hts _ (xm w_639))⟩) rfl hl.1 rfl (Nat.le_of_ble_eq_true rfl) d_H_make_10 (fun H locs hw => ?_)
      refine W.eq (g2 := F0 m 13 ls []) rfl ?_
      refine lv_aload_n hx hb d_H_make_13 rfl (lv_at hl 0 rfl) ?_
      refine xr_get hx hb hts (xmu uws_H) hown hw h3 rfl (by decide) (hts _ (xm w_231)) (fun _ h9 => h9) d_H_make_14 ?_
      refine lv_iload_n hx hb d_H_make_17 rfl (lv_at hl 1 rfl) ?_
      refine lv_iload_n hx hb d_H_make_18 rfl (lv_at hl 2 rfl) ?_
      refine lv_iload_n hx hb d_H_make_19 rfl (lv_at hl 3 rfl) ?_
      refine lv_iload hx hb d_H_make_20 (lv_at hl 4 rfl) ?_
      refine xr_cV (As := [.int x1, .int x2, .int x3, .int x4]) (rest := []) ⟨hx, hb, hml, hown, hts⟩ hw hM4 hle_u_10 (fun _ _ => ⟨callB_of 4 hts (xgood w_645) rfl rfl rfl (hts _ (xm w_2)) (hts _ (xm w_642)) ⟨by decide, by decide, by decide +kernel⟩ ⟨Nat.le_of_ble_eq_true rfl, Nat.le_of_ble_eq_true rfl⟩, (hts _ (xm w_643)), (hts _ (xm w_644))⟩) (qc := (R_F, F_F, 5)) rfl rfl h5 rfl hl.1 rfl (Nat.le_of_ble_eq_true rfl) d_H_make_22 (fun H locs hw => ?_)
      refine W.eq (g2 := F0 m 25 ls []) rfl ?_
      refine lv_aload_n hx hb d_H_make_25 rfl (lv_at hl 0 rfl) ?_
      refine xr_get hx hb hts (xmu uws_H) hown hw h6 rfl (by decide) (hts _ (xm w_232)) (fun _ h9 => h9) d_H_make_26 ?_
      refine lv_iload_n hx hb d_H_make_29 rfl (lv_at hl 1 rfl) ?_
      refine xr_cV (As := [.int x1]) (rest := []) ⟨hx, hb, hml, hown, hts⟩ hw hM7 hle_u_12 (fun _ _ => ⟨callB_of 1 hts (xgood w_612) rfl rfl rfl (hts _ (xm w_3)) (hts _ (xm w_609)) ⟨by decide, by decide, by decide +kernel⟩ ⟨Nat.le_of_ble_eq_true rfl, Nat.le_of_ble_eq_true rfl⟩, (hts _ (xm w_610)), (hts _ (xm w_611))⟩) (qc := (R_D, F_D, 13)) rfl rfl h8 rfl hl.1 rfl (Nat.le_of_ble_eq_true rfl) d_H_make_30 (fun H locs hw => ?_)
      refine W.eq (g2 := F0 m 33 ls []) rfl ?_
      exact xr_vret F rfl hw d_H_make_33
    ·
      have hle_u_8 : x_le u_8 u_8 := x_le.rf u_8
      have hle_u_7 : x_le u_7 u_8 := (hM2.1).tr hle_u_8
      have hle_u : x_le u u_8 := (hM1.1).tr hle_u_7
      refine Or.inr ⟨E9, u_8, k, hle_u, ?_⟩
      intro p e s m args below meth c A H locs ls F hno hw hl
      obtain ⟨⟨hx, hb, hml, hown, hts⟩, hr, hlocks, hmn⟩ := id F
      refine lv_iload_n hx hb d_H_make_0 rfl (lv_at hl 1 rfl) ?_
      refine lv_iload_n hx hb d_H_make_1 rfl (lv_at hl 3 rfl) ?_
      refine lv_iload hx hb d_H_make_2 (lv_at hl 4 rfl) ?_
      refine xr_cS (As := [.int x1, .int x3, .int x4]) (rest := []) ⟨hx, hb, hml, hown, hts⟩ hw hM1 hle_u_7 (fun _ _ => ⟨callB_of 3 hts (xgood w_637) rfl rfl rfl (hts _ (xm w_1)) (hts _ (xm w_635)) ⟨by decide, by decide, by decide +kernel⟩ ⟨Nat.le_of_ble_eq_true rfl, Nat.le_of_ble_eq_true rfl⟩, (hts _ (xm w_636))⟩) rfl hl.1 rfl (Nat.le_of_ble_eq_true rfl) d_H_make_4 (fun H locs hw => ?_)
      refine W.eq (g2 := F0 m 7 ls []) rfl ?_
      refine lv_iload_n hx hb d_H_make_7 rfl (lv_at hl 2 rfl) ?_
      refine lv_bipush (v := 6) hx hb d_H_make_8 (by decide) ?_
      refine xt_cS (As := [.int x2, .int 6]) (rest := []) ⟨hx, hb, hml, hown, hts⟩ hw hM2 hle_u_8 (fun _ _ => ⟨callB_of 2 hts (xgood w_640) rfl rfl rfl (hts _ (xm w_1)) (hts _ (xm w_638)) ⟨by decide, by decide, by decide +kernel⟩ ⟨Nat.le_of_ble_eq_true rfl, Nat.le_of_ble_eq_true rfl⟩, (hts _ (xm w_639))⟩) rfl hl.1 rfl (Nat.le_of_ble_eq_true rfl) d_H_make_10 (fun q9 ce H locs T9 hw hce hcv hcl hT X9 => ?_)
      exact xt_out F hno hw hce hcv hcl hT X9
  ·
    have hle_u_7 : x_le u_7 u_7 := x_le.rf u_7
    have hle_u : x_le u u_7 := (hM1.1).tr hle_u_7
    refine Or.inr ⟨E9, u_7, k, hle_u, ?_⟩
    intro p e s m args below meth c A H locs ls F hno hw hl
    obtain ⟨⟨hx, hb, hml, hown, hts⟩, hr, hlocks, hmn⟩ := id F
    refine lv_iload_n hx hb d_H_make_0 rfl (lv_at hl 1 rfl) ?_
    refine lv_iload_n hx hb d_H_make_1 rfl (lv_at hl 3 rfl) ?_
    refine lv_iload hx hb d_H_make_2 (lv_at hl 4 rfl) ?_
    refine xt_cS (As := [.int x1, .int x3, .int x4]) (rest := []) ⟨hx, hb, hml, hown, hts⟩ hw hM1 hle_u_7 (fun _ _ => ⟨callB_of 3 hts (xgood w_637) rfl rfl rfl (hts _ (xm w_1)) (hts _ (xm w_635)) ⟨by decide, by decide, by decide +kernel⟩ ⟨Nat.le_of_ble_eq_true rfl, Nat.le_of_ble_eq_true rfl⟩, (hts _ (xm w_636))⟩) rfl hl.1 rfl (Nat.le_of_ble_eq_true rfl) d_H_make_4 (fun q9 ce H locs T9 hw hce hcv hcl hT X9 => ?_)
    exact xt_out F hno hw hce hcv hcl hT X9
set_option maxRecDepth 100000 in
set_option maxHeartbeats 4000000 in
theorem c_H_choose (l : Launch) (Z : XZ) (x0 : Nat) (x1 : Int32) (x2 : Int32) (x3 : Int32) (x4 : Int32) (u : PS) (K : PS → Prop) (X : String → PS → Prop) (k : p_H_choose x0 x1 x2 x3 x4 u K X) : (∃ (rv : Option Value) (u1 : PS), (kV K) rv u1 ∧ XMet l Z i_H_choose [.ref x0, .int x1, .int x2, .int x3, .int x4] u rv u1) ∨ ∃ (E : String) (u1 : PS), X E u1 ∧ XMt l Z i_H_choose [.ref x0, .int x1, .int x2, .int x3, .int x4] u E u1 := by
  refine x_metx (by decide) rfl (Nat.le_of_ble_eq_true rfl) ?_
  show XNx l Z i_H_choose u (kV K) X u 0 [(0, .ref x0), (1, .int x1), (2, .int x2), (3, .int x3), (4, .int x4)] []
  unfold p_H_choose at k
  rcases c_H_needPlaces l Z x1 x2 x3 u _ _ k with ⟨_, u_7, ⟨rfl, k⟩, hM1⟩ | ⟨E9, u_7, k, hM1⟩
  ·
    rcases c_H_needPlace l Z x4 u_7 _ _ k with ⟨_, u_8, ⟨rfl, k⟩, hM2⟩ | ⟨E9, u_8, k, hM2⟩
    ·
      obtain ⟨z_9, h3, k⟩ := k
      obtain ⟨h5, k⟩ := k
      obtain ⟨_, u_10, ⟨rfl, k⟩, hM4⟩ := c_F_select l Z z_9 x1 x2 x3 x4 u_8 _ k
      obtain ⟨z_11, h6, k⟩ := k
      obtain ⟨h8, k⟩ := k
      obtain ⟨_, u_12, ⟨rfl, k⟩, hM7⟩ := c_D_functionChanged l Z z_11 x1 u_10 _ k
      have hle_u_12 : x_le u_12 u_12 := x_le.rf u_12
      have hle_u_10 : x_le u_10 u_12 := (hM7.1).tr hle_u_12
      have hle_u_8 : x_le u_8 u_12 := (hM4.1).tr hle_u_10
      have hle_u_7 : x_le u_7 u_12 := (hM2.1).tr hle_u_8
      have hle_u : x_le u u_12 := (hM1.1).tr hle_u_7
      refine Or.inl ⟨none, u_12, ⟨rfl, k⟩, hle_u, ?_⟩
      intro p e s m args below meth c A H locs ls F hw hl
      obtain ⟨⟨hx, hb, hml, hown, hts⟩, hr, hlocks, hmn⟩ := id F
      refine lv_iload_n hx hb d_H_choose_0 rfl (lv_at hl 1 rfl) ?_
      refine lv_iload_n hx hb d_H_choose_1 rfl (lv_at hl 2 rfl) ?_
      refine lv_iload_n hx hb d_H_choose_2 rfl (lv_at hl 3 rfl) ?_
      refine xr_cS (As := [.int x1, .int x2, .int x3]) (rest := []) ⟨hx, hb, hml, hown, hts⟩ hw hM1 hle_u_7 (fun _ _ => ⟨callB_of 3 hts (xgood w_637) rfl rfl rfl (hts _ (xm w_1)) (hts _ (xm w_635)) ⟨by decide, by decide, by decide +kernel⟩ ⟨Nat.le_of_ble_eq_true rfl, Nat.le_of_ble_eq_true rfl⟩, (hts _ (xm w_636))⟩) rfl hl.1 rfl (Nat.le_of_ble_eq_true rfl) d_H_choose_3 (fun H locs hw => ?_)
      refine W.eq (g2 := F0 m 6 ls []) rfl ?_
      refine lv_iload hx hb d_H_choose_6 (lv_at hl 4 rfl) ?_
      refine xr_cS (As := [.int x4]) (rest := []) ⟨hx, hb, hml, hown, hts⟩ hw hM2 hle_u_8 (fun _ _ => ⟨callB_of 1 hts (xgood w_518) rfl rfl rfl (hts _ (xm w_1)) (hts _ (xm w_516)) ⟨by decide, by decide, by decide +kernel⟩ ⟨Nat.le_of_ble_eq_true rfl, Nat.le_of_ble_eq_true rfl⟩, (hts _ (xm w_517))⟩) rfl hl.1 rfl (Nat.le_of_ble_eq_true rfl) d_H_choose_8 (fun H locs hw => ?_)
      refine W.eq (g2 := F0 m 11 ls []) rfl ?_
      refine lv_aload_n hx hb d_H_choose_11 rfl (lv_at hl 0 rfl) ?_
      refine xr_get hx hb hts (xmu uws_H) hown hw h3 rfl (by decide) (hts _ (xm w_231)) (fun _ h9 => h9) d_H_choose_12 ?_
      refine lv_iload_n hx hb d_H_choose_15 rfl (lv_at hl 1 rfl) ?_
      refine lv_iload_n hx hb d_H_choose_16 rfl (lv_at hl 2 rfl) ?_
      refine lv_iload_n hx hb d_H_choose_17 rfl (lv_at hl 3 rfl) ?_
      refine lv_iload hx hb d_H_choose_18 (lv_at hl 4 rfl) ?_
      refine xr_cV (As := [.int x1, .int x2, .int x3, .int x4]) (rest := []) ⟨hx, hb, hml, hown, hts⟩ hw hM4 hle_u_10 (fun _ _ => ⟨callB_of 4 hts (xgood w_660) rfl rfl rfl (hts _ (xm w_2)) (hts _ (xm w_657)) ⟨by decide, by decide, by decide +kernel⟩ ⟨Nat.le_of_ble_eq_true rfl, Nat.le_of_ble_eq_true rfl⟩, (hts _ (xm w_658)), (hts _ (xm w_659))⟩) (qc := (R_F, F_F, 5)) rfl rfl h5 rfl hl.1 rfl (Nat.le_of_ble_eq_true rfl) d_H_choose_20 (fun H locs hw => ?_)
      refine W.eq (g2 := F0 m 23 ls []) rfl ?_
      refine lv_aload_n hx hb d_H_choose_23 rfl (lv_at hl 0 rfl) ?_
      refine xr_get hx hb hts (xmu uws_H) hown hw h6 rfl (by decide) (hts _ (xm w_232)) (fun _ h9 => h9) d_H_choose_24 ?_
      refine lv_iload_n hx hb d_H_choose_27 rfl (lv_at hl 1 rfl) ?_
      refine xr_cV (As := [.int x1]) (rest := []) ⟨hx, hb, hml, hown, hts⟩ hw hM7 hle_u_12 (fun _ _ => ⟨callB_of 1 hts (xgood w_612) rfl rfl rfl (hts _ (xm w_3)) (hts _ (xm w_609)) ⟨by decide, by decide, by decide +kernel⟩ ⟨Nat.le_of_ble_eq_true rfl, Nat.le_of_ble_eq_true rfl⟩, (hts _ (xm w_610)), (hts _ (xm w_611))⟩) (qc := (R_D, F_D, 13)) rfl rfl h8 rfl hl.1 rfl (Nat.le_of_ble_eq_true rfl) d_H_choose_28 (fun H locs hw => ?_)
      refine W.eq (g2 := F0 m 31 ls []) rfl ?_
      exact xr_vret F rfl hw d_H_choose_31
    ·
      have hle_u_8 : x_le u_8 u_8 := x_le.rf u_8
      have hle_u_7 : x_le u_7 u_8 := (hM2.1).tr hle_u_8
      have hle_u : x_le u u_8 := (hM1.1).tr hle_u_7
      refine Or.inr ⟨E9, u_8, k, hle_u, ?_⟩
      intro p e s m args below meth c A H locs ls F hno hw hl
      obtain ⟨⟨hx, hb, hml, hown, hts⟩, hr, hlocks, hmn⟩ := id F
      refine lv_iload_n hx hb d_H_choose_0 rfl (lv_at hl 1 rfl) ?_
      refine lv_iload_n hx hb d_H_choose_1 rfl (lv_at hl 2 rfl) ?_
      refine lv_iload_n hx hb d_H_choose_2 rfl (lv_at hl 3 rfl) ?_
      refine xr_cS (As := [.int x1, .int x2, .int x3]) (rest := []) ⟨hx, hb, hml, hown, hts⟩ hw hM1 hle_u_7 (fun _ _ => ⟨callB_of 3 hts (xgood w_637) rfl rfl rfl (hts _ (xm w_1)) (hts _ (xm w_635)) ⟨by decide, by decide, by decide +kernel⟩ ⟨Nat.le_of_ble_eq_true rfl, Nat.le_of_ble_eq_true rfl⟩, (hts _ (xm w_636))⟩) rfl hl.1 rfl (Nat.le_of_ble_eq_true rfl) d_H_choose_3 (fun H locs hw => ?_)
      refine W.eq (g2 := F0 m 6 ls []) rfl ?_
      refine lv_iload hx hb d_H_choose_6 (lv_at hl 4 rfl) ?_
      refine xt_cS (As := [.int x4]) (rest := []) ⟨hx, hb, hml, hown, hts⟩ hw hM2 hle_u_8 (fun _ _ => ⟨callB_of 1 hts (xgood w_518) rfl rfl rfl (hts _ (xm w_1)) (hts _ (xm w_516)) ⟨by decide, by decide, by decide +kernel⟩ ⟨Nat.le_of_ble_eq_true rfl, Nat.le_of_ble_eq_true rfl⟩, (hts _ (xm w_517))⟩) rfl hl.1 rfl (Nat.le_of_ble_eq_true rfl) d_H_choose_8 (fun q9 ce H locs T9 hw hce hcv hcl hT X9 => ?_)
      exact xt_out F hno hw hce hcv hcl hT X9
  ·
    have hle_u_7 : x_le u_7 u_7 := x_le.rf u_7
    have hle_u : x_le u u_7 := (hM1.1).tr hle_u_7
    refine Or.inr ⟨E9, u_7, k, hle_u, ?_⟩
    intro p e s m args below meth c A H locs ls F hno hw hl
    obtain ⟨⟨hx, hb, hml, hown, hts⟩, hr, hlocks, hmn⟩ := id F
    refine lv_iload_n hx hb d_H_choose_0 rfl (lv_at hl 1 rfl) ?_
    refine lv_iload_n hx hb d_H_choose_1 rfl (lv_at hl 2 rfl) ?_
    refine lv_iload_n hx hb d_H_choose_2 rfl (lv_at hl 3 rfl) ?_
    refine xt_cS (As := [.int x1, .int x2, .int x3]) (rest := []) ⟨hx, hb, hml, hown, hts⟩ hw hM1 hle_u_7 (fun _ _ => ⟨callB_of 3 hts (xgood w_637) rfl rfl rfl (hts _ (xm w_1)) (hts _ (xm w_635)) ⟨by decide, by decide, by decide +kernel⟩ ⟨Nat.le_of_ble_eq_true rfl, Nat.le_of_ble_eq_true rfl⟩, (hts _ (xm w_636))⟩) rfl hl.1 rfl (Nat.le_of_ble_eq_true rfl) d_H_choose_3 (fun q9 ce H locs T9 hw hce hcv hcl hT X9 => ?_)
    exact xt_out F hno hw hce hcv hcl hT X9
set_option maxRecDepth 100000 in
set_option maxHeartbeats 4000000 in
theorem c_H_fix (l : Launch) (Z : XZ) (x0 : Nat) (x1 : Int32) (x2 : Int32) (x3 : Int32) (x4 : Int32) (u : PS) (K : PS → Prop) (X : String → PS → Prop) (k : p_H_fix x0 x1 x2 x3 x4 u K X) : (∃ (rv : Option Value) (u1 : PS), (kV K) rv u1 ∧ XMet l Z i_H_fix [.ref x0, .int x1, .int x2, .int x3, .int x4] u rv u1) ∨ ∃ (E : String) (u1 : PS), X E u1 ∧ XMt l Z i_H_fix [.ref x0, .int x1, .int x2, .int x3, .int x4] u E u1 := by
  refine x_metx (by decide) rfl (Nat.le_of_ble_eq_true rfl) ?_
  show XNx l Z i_H_fix u (kV K) X u 0 [(0, .ref x0), (1, .int x1), (2, .int x2), (3, .int x3), (4, .int x4)] []
  unfold p_H_fix at k
  rcases c_H_needPlaces l Z x1 x2 x2 u _ _ k with ⟨_, u_8, ⟨rfl, k⟩, hM1⟩ | ⟨E9, u_8, k, hM1⟩
  ·
    rcases c_H_needInput l Z x3 u_8 _ _ k with ⟨_, u_9, ⟨rfl, k⟩, hM2⟩ | ⟨E9, u_9, k, hM2⟩
    ·
      rcases c_H_needTruth l Z x4 u_9 _ _ k with ⟨_, u_10, ⟨rfl, k⟩, hM3⟩ | ⟨E9, u_10, k, hM3⟩
      ·
        obtain ⟨z_11, h4, k⟩ := k
        obtain ⟨h6, k⟩ := k
        obtain ⟨_, u_12, ⟨rfl, k⟩, hM5⟩ := c_F_restrict l Z z_11 x1 x2 x3 x4 u_10 _ k
        obtain ⟨z_13, h7, k⟩ := k
        obtain ⟨h9, k⟩ := k
        obtain ⟨_, u_14, ⟨rfl, k⟩, hM8⟩ := c_D_functionChanged l Z z_13 x1 u_12 _ k
        have hle_u_14 : x_le u_14 u_14 := x_le.rf u_14
        have hle_u_12 : x_le u_12 u_14 := (hM8.1).tr hle_u_14
        have hle_u_10 : x_le u_10 u_14 := (hM5.1).tr hle_u_12
        have hle_u_9 : x_le u_9 u_14 := (hM3.1).tr hle_u_10
        have hle_u_8 : x_le u_8 u_14 := (hM2.1).tr hle_u_9
        have hle_u : x_le u u_14 := (hM1.1).tr hle_u_8
        refine Or.inl ⟨none, u_14, ⟨rfl, k⟩, hle_u, ?_⟩
        intro p e s m args below meth c A H locs ls F hw hl
        obtain ⟨⟨hx, hb, hml, hown, hts⟩, hr, hlocks, hmn⟩ := id F
        refine lv_iload_n hx hb d_H_fix_0 rfl (lv_at hl 1 rfl) ?_
        refine lv_iload_n hx hb d_H_fix_1 rfl (lv_at hl 2 rfl) ?_
        refine lv_iload_n hx hb d_H_fix_2 rfl (lv_at hl 2 rfl) ?_
        refine xr_cS (As := [.int x1, .int x2, .int x2]) (rest := []) ⟨hx, hb, hml, hown, hts⟩ hw hM1 hle_u_8 (fun _ _ => ⟨callB_of 3 hts (xgood w_637) rfl rfl rfl (hts _ (xm w_1)) (hts _ (xm w_635)) ⟨by decide, by decide, by decide +kernel⟩ ⟨Nat.le_of_ble_eq_true rfl, Nat.le_of_ble_eq_true rfl⟩, (hts _ (xm w_636))⟩) rfl hl.1 rfl (Nat.le_of_ble_eq_true rfl) d_H_fix_3 (fun H locs hw => ?_)
        refine W.eq (g2 := F0 m 6 ls []) rfl ?_
        refine lv_iload_n hx hb d_H_fix_6 rfl (lv_at hl 3 rfl) ?_
        refine xr_cS (As := [.int x3]) (rest := []) ⟨hx, hb, hml, hown, hts⟩ hw hM2 hle_u_9 (fun _ _ => ⟨callB_of 1 hts (xgood w_622) rfl rfl rfl (hts _ (xm w_1)) (hts _ (xm w_620)) ⟨by decide, by decide, by decide +kernel⟩ ⟨Nat.le_of_ble_eq_true rfl, Nat.le_of_ble_eq_true rfl⟩, (hts _ (xm w_621))⟩) rfl hl.1 rfl (Nat.le_of_ble_eq_true rfl) d_H_fix_7 (fun H locs hw => ?_)
        refine W.eq (g2 := F0 m 10 ls []) rfl ?_
        refine lv_iload hx hb d_H_fix_10 (lv_at hl 4 rfl) ?_
        refine xr_cS (As := [.int x4]) (rest := []) ⟨hx, hb, hml, hown, hts⟩ hw hM3 hle_u_10 (fun _ _ => ⟨callB_of 1 hts (xgood w_588) rfl rfl rfl (hts _ (xm w_1)) (hts _ (xm w_586)) ⟨by decide, by decide, by decide +kernel⟩ ⟨Nat.le_of_ble_eq_true rfl, Nat.le_of_ble_eq_true rfl⟩, (hts _ (xm w_587))⟩) rfl hl.1 rfl (Nat.le_of_ble_eq_true rfl) d_H_fix_12 (fun H locs hw => ?_)
        refine W.eq (g2 := F0 m 15 ls []) rfl ?_
        refine lv_aload_n hx hb d_H_fix_15 rfl (lv_at hl 0 rfl) ?_
        refine xr_get hx hb hts (xmu uws_H) hown hw h4 rfl (by decide) (hts _ (xm w_231)) (fun _ h9 => h9) d_H_fix_16 ?_
        refine lv_iload_n hx hb d_H_fix_19 rfl (lv_at hl 1 rfl) ?_
        refine lv_iload_n hx hb d_H_fix_20 rfl (lv_at hl 2 rfl) ?_
        refine lv_iload_n hx hb d_H_fix_21 rfl (lv_at hl 3 rfl) ?_
        refine lv_iload hx hb d_H_fix_22 (lv_at hl 4 rfl) ?_
        refine xr_cV (As := [.int x1, .int x2, .int x3, .int x4]) (rest := []) ⟨hx, hb, hml, hown, hts⟩ hw hM5 hle_u_12 (fun _ _ => ⟨callB_of 4 hts (xgood w_671) rfl rfl rfl (hts _ (xm w_2)) (hts _ (xm w_668)) ⟨by decide, by decide, by decide +kernel⟩ ⟨Nat.le_of_ble_eq_true rfl, Nat.le_of_ble_eq_true rfl⟩, (hts _ (xm w_669)), (hts _ (xm w_670))⟩) (qc := (R_F, F_F, 5)) rfl rfl h6 rfl hl.1 rfl (Nat.le_of_ble_eq_true rfl) d_H_fix_24 (fun H locs hw => ?_)
        refine W.eq (g2 := F0 m 27 ls []) rfl ?_
        refine lv_aload_n hx hb d_H_fix_27 rfl (lv_at hl 0 rfl) ?_
        refine xr_get hx hb hts (xmu uws_H) hown hw h7 rfl (by decide) (hts _ (xm w_232)) (fun _ h9 => h9) d_H_fix_28 ?_
        refine lv_iload_n hx hb d_H_fix_31 rfl (lv_at hl 1 rfl) ?_
        refine xr_cV (As := [.int x1]) (rest := []) ⟨hx, hb, hml, hown, hts⟩ hw hM8 hle_u_14 (fun _ _ => ⟨callB_of 1 hts (xgood w_612) rfl rfl rfl (hts _ (xm w_3)) (hts _ (xm w_609)) ⟨by decide, by decide, by decide +kernel⟩ ⟨Nat.le_of_ble_eq_true rfl, Nat.le_of_ble_eq_true rfl⟩, (hts _ (xm w_610)), (hts _ (xm w_611))⟩) (qc := (R_D, F_D, 13)) rfl rfl h9 rfl hl.1 rfl (Nat.le_of_ble_eq_true rfl) d_H_fix_32 (fun H locs hw => ?_)
        refine W.eq (g2 := F0 m 35 ls []) rfl ?_
        exact xr_vret F rfl hw d_H_fix_35
      ·
        have hle_u_10 : x_le u_10 u_10 := x_le.rf u_10
        have hle_u_9 : x_le u_9 u_10 := (hM3.1).tr hle_u_10
        have hle_u_8 : x_le u_8 u_10 := (hM2.1).tr hle_u_9
        have hle_u : x_le u u_10 := (hM1.1).tr hle_u_8
        refine Or.inr ⟨E9, u_10, k, hle_u, ?_⟩
        intro p e s m args below meth c A H locs ls F hno hw hl
        obtain ⟨⟨hx, hb, hml, hown, hts⟩, hr, hlocks, hmn⟩ := id F
        refine lv_iload_n hx hb d_H_fix_0 rfl (lv_at hl 1 rfl) ?_
        refine lv_iload_n hx hb d_H_fix_1 rfl (lv_at hl 2 rfl) ?_
        refine lv_iload_n hx hb d_H_fix_2 rfl (lv_at hl 2 rfl) ?_
        refine xr_cS (As := [.int x1, .int x2, .int x2]) (rest := []) ⟨hx, hb, hml, hown, hts⟩ hw hM1 hle_u_8 (fun _ _ => ⟨callB_of 3 hts (xgood w_637) rfl rfl rfl (hts _ (xm w_1)) (hts _ (xm w_635)) ⟨by decide, by decide, by decide +kernel⟩ ⟨Nat.le_of_ble_eq_true rfl, Nat.le_of_ble_eq_true rfl⟩, (hts _ (xm w_636))⟩) rfl hl.1 rfl (Nat.le_of_ble_eq_true rfl) d_H_fix_3 (fun H locs hw => ?_)
        refine W.eq (g2 := F0 m 6 ls []) rfl ?_
        refine lv_iload_n hx hb d_H_fix_6 rfl (lv_at hl 3 rfl) ?_
        refine xr_cS (As := [.int x3]) (rest := []) ⟨hx, hb, hml, hown, hts⟩ hw hM2 hle_u_9 (fun _ _ => ⟨callB_of 1 hts (xgood w_622) rfl rfl rfl (hts _ (xm w_1)) (hts _ (xm w_620)) ⟨by decide, by decide, by decide +kernel⟩ ⟨Nat.le_of_ble_eq_true rfl, Nat.le_of_ble_eq_true rfl⟩, (hts _ (xm w_621))⟩) rfl hl.1 rfl (Nat.le_of_ble_eq_true rfl) d_H_fix_7 (fun H locs hw => ?_)
        refine W.eq (g2 := F0 m 10 ls []) rfl ?_
        refine lv_iload hx hb d_H_fix_10 (lv_at hl 4 rfl) ?_
        refine xt_cS (As := [.int x4]) (rest := []) ⟨hx, hb, hml, hown, hts⟩ hw hM3 hle_u_10 (fun _ _ => ⟨callB_of 1 hts (xgood w_588) rfl rfl rfl (hts _ (xm w_1)) (hts _ (xm w_586)) ⟨by decide, by decide, by decide +kernel⟩ ⟨Nat.le_of_ble_eq_true rfl, Nat.le_of_ble_eq_true rfl⟩, (hts _ (xm w_587))⟩) rfl hl.1 rfl (Nat.le_of_ble_eq_true rfl) d_H_fix_12 (fun q9 ce H locs T9 hw hce hcv hcl hT X9 => ?_)
        exact xt_out F hno hw hce hcv hcl hT X9
    ·
      have hle_u_9 : x_le u_9 u_9 := x_le.rf u_9
      have hle_u_8 : x_le u_8 u_9 := (hM2.1).tr hle_u_9
      have hle_u : x_le u u_9 := (hM1.1).tr hle_u_8
      refine Or.inr ⟨E9, u_9, k, hle_u, ?_⟩
      intro p e s m args below meth c A H locs ls F hno hw hl
      obtain ⟨⟨hx, hb, hml, hown, hts⟩, hr, hlocks, hmn⟩ := id F
      refine lv_iload_n hx hb d_H_fix_0 rfl (lv_at hl 1 rfl) ?_
      refine lv_iload_n hx hb d_H_fix_1 rfl (lv_at hl 2 rfl) ?_
      refine lv_iload_n hx hb d_H_fix_2 rfl (lv_at hl 2 rfl) ?_
      refine xr_cS (As := [.int x1, .int x2, .int x2]) (rest := []) ⟨hx, hb, hml, hown, hts⟩ hw hM1 hle_u_8 (fun _ _ => ⟨callB_of 3 hts (xgood w_637) rfl rfl rfl (hts _ (xm w_1)) (hts _ (xm w_635)) ⟨by decide, by decide, by decide +kernel⟩ ⟨Nat.le_of_ble_eq_true rfl, Nat.le_of_ble_eq_true rfl⟩, (hts _ (xm w_636))⟩) rfl hl.1 rfl (Nat.le_of_ble_eq_true rfl) d_H_fix_3 (fun H locs hw => ?_)
      refine W.eq (g2 := F0 m 6 ls []) rfl ?_
      refine lv_iload_n hx hb d_H_fix_6 rfl (lv_at hl 3 rfl) ?_
      refine xt_cS (As := [.int x3]) (rest := []) ⟨hx, hb, hml, hown, hts⟩ hw hM2 hle_u_9 (fun _ _ => ⟨callB_of 1 hts (xgood w_622) rfl rfl rfl (hts _ (xm w_1)) (hts _ (xm w_620)) ⟨by decide, by decide, by decide +kernel⟩ ⟨Nat.le_of_ble_eq_true rfl, Nat.le_of_ble_eq_true rfl⟩, (hts _ (xm w_621))⟩) rfl hl.1 rfl (Nat.le_of_ble_eq_true rfl) d_H_fix_7 (fun q9 ce H locs T9 hw hce hcv hcl hT X9 => ?_)
      exact xt_out F hno hw hce hcv hcl hT X9
  ·
    have hle_u_8 : x_le u_8 u_8 := x_le.rf u_8
    have hle_u : x_le u u_8 := (hM1.1).tr hle_u_8
    refine Or.inr ⟨E9, u_8, k, hle_u, ?_⟩
    intro p e s m args below meth c A H locs ls F hno hw hl
    obtain ⟨⟨hx, hb, hml, hown, hts⟩, hr, hlocks, hmn⟩ := id F
    refine lv_iload_n hx hb d_H_fix_0 rfl (lv_at hl 1 rfl) ?_
    refine lv_iload_n hx hb d_H_fix_1 rfl (lv_at hl 2 rfl) ?_
    refine lv_iload_n hx hb d_H_fix_2 rfl (lv_at hl 2 rfl) ?_
    refine xt_cS (As := [.int x1, .int x2, .int x2]) (rest := []) ⟨hx, hb, hml, hown, hts⟩ hw hM1 hle_u_8 (fun _ _ => ⟨callB_of 3 hts (xgood w_637) rfl rfl rfl (hts _ (xm w_1)) (hts _ (xm w_635)) ⟨by decide, by decide, by decide +kernel⟩ ⟨Nat.le_of_ble_eq_true rfl, Nat.le_of_ble_eq_true rfl⟩, (hts _ (xm w_636))⟩) rfl hl.1 rfl (Nat.le_of_ble_eq_true rfl) d_H_fix_3 (fun q9 ce H locs T9 hw hce hcv hcl hT X9 => ?_)
    exact xt_out F hno hw hce hcv hcl hT X9
set_option maxRecDepth 100000 in
set_option maxHeartbeats 4000000 in
theorem c_H_compose (l : Launch) (Z : XZ) (x0 : Nat) (x1 : Int32) (x2 : Int32) (x3 : Int32) (x4 : Int32) (u : PS) (K : PS → Prop) (X : String → PS → Prop) (k : p_H_compose x0 x1 x2 x3 x4 u K X) : (∃ (rv : Option Value) (u1 : PS), (kV K) rv u1 ∧ XMet l Z i_H_compose [.ref x0, .int x1, .int x2, .int x3, .int x4] u rv u1) ∨ ∃ (E : String) (u1 : PS), X E u1 ∧ XMt l Z i_H_compose [.ref x0, .int x1, .int x2, .int x3, .int x4] u E u1 := by
  refine x_metx (by decide) rfl (Nat.le_of_ble_eq_true rfl) ?_
  show XNx l Z i_H_compose u (kV K) X u 0 [(0, .ref x0), (1, .int x1), (2, .int x2), (3, .int x3), (4, .int x4)] []
  unfold p_H_compose at k
  rcases c_H_needPlaces l Z x1 x2 x4 u _ _ k with ⟨_, u_7, ⟨rfl, k⟩, hM1⟩ | ⟨E9, u_7, k, hM1⟩
  ·
    rcases c_H_needInput l Z x3 u_7 _ _ k with ⟨_, u_8, ⟨rfl, k⟩, hM2⟩ | ⟨E9, u_8, k, hM2⟩
    ·
      obtain ⟨z_9, h3, k⟩ := k
      obtain ⟨h5, k⟩ := k
      obtain ⟨_, u_10, ⟨rfl, k⟩, hM4⟩ := c_F_replace l Z z_9 x1 x2 x3 x4 u_8 _ k
      obtain ⟨z_11, h6, k⟩ := k
      obtain ⟨h8, k⟩ := k
      obtain ⟨_, u_12, ⟨rfl, k⟩, hM7⟩ := c_D_functionChanged l Z z_11 x1 u_10 _ k
      have hle_u_12 : x_le u_12 u_12 := x_le.rf u_12
      have hle_u_10 : x_le u_10 u_12 := (hM7.1).tr hle_u_12
      have hle_u_8 : x_le u_8 u_12 := (hM4.1).tr hle_u_10
      have hle_u_7 : x_le u_7 u_12 := (hM2.1).tr hle_u_8
      have hle_u : x_le u u_12 := (hM1.1).tr hle_u_7
      refine Or.inl ⟨none, u_12, ⟨rfl, k⟩, hle_u, ?_⟩
      intro p e s m args below meth c A H locs ls F hw hl
      obtain ⟨⟨hx, hb, hml, hown, hts⟩, hr, hlocks, hmn⟩ := id F
      refine lv_iload_n hx hb d_H_compose_0 rfl (lv_at hl 1 rfl) ?_
      refine lv_iload_n hx hb d_H_compose_1 rfl (lv_at hl 2 rfl) ?_
      refine lv_iload hx hb d_H_compose_2 (lv_at hl 4 rfl) ?_
      refine xr_cS (As := [.int x1, .int x2, .int x4]) (rest := []) ⟨hx, hb, hml, hown, hts⟩ hw hM1 hle_u_7 (fun _ _ => ⟨callB_of 3 hts (xgood w_637) rfl rfl rfl (hts _ (xm w_1)) (hts _ (xm w_635)) ⟨by decide, by decide, by decide +kernel⟩ ⟨Nat.le_of_ble_eq_true rfl, Nat.le_of_ble_eq_true rfl⟩, (hts _ (xm w_636))⟩) rfl hl.1 rfl (Nat.le_of_ble_eq_true rfl) d_H_compose_4 (fun H locs hw => ?_)
      refine W.eq (g2 := F0 m 7 ls []) rfl ?_
      refine lv_iload_n hx hb d_H_compose_7 rfl (lv_at hl 3 rfl) ?_
      refine xr_cS (As := [.int x3]) (rest := []) ⟨hx, hb, hml, hown, hts⟩ hw hM2 hle_u_8 (fun _ _ => ⟨callB_of 1 hts (xgood w_622) rfl rfl rfl (hts _ (xm w_1)) (hts _ (xm w_620)) ⟨by decide, by decide, by decide +kernel⟩ ⟨Nat.le_of_ble_eq_true rfl, Nat.le_of_ble_eq_true rfl⟩, (hts _ (xm w_621))⟩) rfl hl.1 rfl (Nat.le_of_ble_eq_true rfl) d_H_compose_8 (fun H locs hw => ?_)
      refine W.eq (g2 := F0 m 11 ls []) rfl ?_
      refine lv_aload_n hx hb d_H_compose_11 rfl (lv_at hl 0 rfl) ?_
      refine xr_get hx hb hts (xmu uws_H) hown hw h3 rfl (by decide) (hts _ (xm w_231)) (fun _ h9 => h9) d_H_compose_12 ?_
      refine lv_iload_n hx hb d_H_compose_15 rfl (lv_at hl 1 rfl) ?_
      refine lv_iload_n hx hb d_H_compose_16 rfl (lv_at hl 2 rfl) ?_
      refine lv_iload_n hx hb d_H_compose_17 rfl (lv_at hl 3 rfl) ?_
      refine lv_iload hx hb d_H_compose_18 (lv_at hl 4 rfl) ?_
      refine xr_cV (As := [.int x1, .int x2, .int x3, .int x4]) (rest := []) ⟨hx, hb, hml, hown, hts⟩ hw hM4 hle_u_10 (fun _ _ => ⟨callB_of 4 hts (xgood w_690) rfl rfl rfl (hts _ (xm w_2)) (hts _ (xm w_687)) ⟨by decide, by decide, by decide +kernel⟩ ⟨Nat.le_of_ble_eq_true rfl, Nat.le_of_ble_eq_true rfl⟩, (hts _ (xm w_688)), (hts _ (xm w_689))⟩) (qc := (R_F, F_F, 5)) rfl rfl h5 rfl hl.1 rfl (Nat.le_of_ble_eq_true rfl) d_H_compose_20 (fun H locs hw => ?_)
      refine W.eq (g2 := F0 m 23 ls []) rfl ?_
      refine lv_aload_n hx hb d_H_compose_23 rfl (lv_at hl 0 rfl) ?_
      refine xr_get hx hb hts (xmu uws_H) hown hw h6 rfl (by decide) (hts _ (xm w_232)) (fun _ h9 => h9) d_H_compose_24 ?_
      refine lv_iload_n hx hb d_H_compose_27 rfl (lv_at hl 1 rfl) ?_
      refine xr_cV (As := [.int x1]) (rest := []) ⟨hx, hb, hml, hown, hts⟩ hw hM7 hle_u_12 (fun _ _ => ⟨callB_of 1 hts (xgood w_612) rfl rfl rfl (hts _ (xm w_3)) (hts _ (xm w_609)) ⟨by decide, by decide, by decide +kernel⟩ ⟨Nat.le_of_ble_eq_true rfl, Nat.le_of_ble_eq_true rfl⟩, (hts _ (xm w_610)), (hts _ (xm w_611))⟩) (qc := (R_D, F_D, 13)) rfl rfl h8 rfl hl.1 rfl (Nat.le_of_ble_eq_true rfl) d_H_compose_28 (fun H locs hw => ?_)
      refine W.eq (g2 := F0 m 31 ls []) rfl ?_
      exact xr_vret F rfl hw d_H_compose_31
    ·
      have hle_u_8 : x_le u_8 u_8 := x_le.rf u_8
      have hle_u_7 : x_le u_7 u_8 := (hM2.1).tr hle_u_8
      have hle_u : x_le u u_8 := (hM1.1).tr hle_u_7
      refine Or.inr ⟨E9, u_8, k, hle_u, ?_⟩
      intro p e s m args below meth c A H locs ls F hno hw hl
      obtain ⟨⟨hx, hb, hml, hown, hts⟩, hr, hlocks, hmn⟩ := id F
      refine lv_iload_n hx hb d_H_compose_0 rfl (lv_at hl 1 rfl) ?_
      refine lv_iload_n hx hb d_H_compose_1 rfl (lv_at hl 2 rfl) ?_
      refine lv_iload hx hb d_H_compose_2 (lv_at hl 4 rfl) ?_
      refine xr_cS (As := [.int x1, .int x2, .int x4]) (rest := []) ⟨hx, hb, hml, hown, hts⟩ hw hM1 hle_u_7 (fun _ _ => ⟨callB_of 3 hts (xgood w_637) rfl rfl rfl (hts _ (xm w_1)) (hts _ (xm w_635)) ⟨by decide, by decide, by decide +kernel⟩ ⟨Nat.le_of_ble_eq_true rfl, Nat.le_of_ble_eq_true rfl⟩, (hts _ (xm w_636))⟩) rfl hl.1 rfl (Nat.le_of_ble_eq_true rfl) d_H_compose_4 (fun H locs hw => ?_)
      refine W.eq (g2 := F0 m 7 ls []) rfl ?_
      refine lv_iload_n hx hb d_H_compose_7 rfl (lv_at hl 3 rfl) ?_
      refine xt_cS (As := [.int x3]) (rest := []) ⟨hx, hb, hml, hown, hts⟩ hw hM2 hle_u_8 (fun _ _ => ⟨callB_of 1 hts (xgood w_622) rfl rfl rfl (hts _ (xm w_1)) (hts _ (xm w_620)) ⟨by decide, by decide, by decide +kernel⟩ ⟨Nat.le_of_ble_eq_true rfl, Nat.le_of_ble_eq_true rfl⟩, (hts _ (xm w_621))⟩) rfl hl.1 rfl (Nat.le_of_ble_eq_true rfl) d_H_compose_8 (fun q9 ce H locs T9 hw hce hcv hcl hT X9 => ?_)
      exact xt_out F hno hw hce hcv hcl hT X9
  ·
    have hle_u_7 : x_le u_7 u_7 := x_le.rf u_7
    have hle_u : x_le u u_7 := (hM1.1).tr hle_u_7
    refine Or.inr ⟨E9, u_7, k, hle_u, ?_⟩
    intro p e s m args below meth c A H locs ls F hno hw hl
    obtain ⟨⟨hx, hb, hml, hown, hts⟩, hr, hlocks, hmn⟩ := id F
    refine lv_iload_n hx hb d_H_compose_0 rfl (lv_at hl 1 rfl) ?_
    refine lv_iload_n hx hb d_H_compose_1 rfl (lv_at hl 2 rfl) ?_
    refine lv_iload hx hb d_H_compose_2 (lv_at hl 4 rfl) ?_
    refine xt_cS (As := [.int x1, .int x2, .int x4]) (rest := []) ⟨hx, hb, hml, hown, hts⟩ hw hM1 hle_u_7 (fun _ _ => ⟨callB_of 3 hts (xgood w_637) rfl rfl rfl (hts _ (xm w_1)) (hts _ (xm w_635)) ⟨by decide, by decide, by decide +kernel⟩ ⟨Nat.le_of_ble_eq_true rfl, Nat.le_of_ble_eq_true rfl⟩, (hts _ (xm w_636))⟩) rfl hl.1 rfl (Nat.le_of_ble_eq_true rfl) d_H_compose_4 (fun q9 ce H locs T9 hw hce hcv hcl hT X9 => ?_)
    exact xt_out F hno hw hce hcv hcl hT X9
set_option maxRecDepth 100000 in
set_option maxHeartbeats 4000000 in
theorem c_H_quantify (l : Launch) (Z : XZ) (x0 : Nat) (x1 : Int32) (x2 : Int32) (x3 : Int32) (x4 : Int32) (u : PS) (K : PS → Prop) (X : String → PS → Prop) (k : p_H_quantify x0 x1 x2 x3 x4 u K X) : (∃ (rv : Option Value) (u1 : PS), (kV K) rv u1 ∧ XMet l Z i_H_quantify [.ref x0, .int x1, .int x2, .int x3, .int x4] u rv u1) ∨ ∃ (E : String) (u1 : PS), X E u1 ∧ XMt l Z i_H_quantify [.ref x0, .int x1, .int x2, .int x3, .int x4] u E u1 := by
  refine x_metx (by decide) rfl (Nat.le_of_ble_eq_true rfl) ?_
  show XNx l Z i_H_quantify u (kV K) X u 0 [(0, .ref x0), (1, .int x1), (2, .int x2), (3, .int x3), (4, .int x4)] []
  unfold p_H_quantify at k
  rcases c_H_needPlaces l Z x1 x2 x2 u _ _ k with ⟨_, u_7, ⟨rfl, k⟩, hM1⟩ | ⟨E9, u_7, k, hM1⟩
  ·
    rcases c_H_needBelow l Z x3 (1024 : Int32) u_7 _ _ k with ⟨_, u_8, ⟨rfl, k⟩, hM2⟩ | ⟨E9, u_8, k, hM2⟩
    ·
      obtain ⟨z_9, h3, k⟩ := k
      obtain ⟨h5, k⟩ := k
      obtain ⟨_, u_10, ⟨rfl, k⟩, hM4⟩ := c_F_project l Z z_9 x1 x2 x2 x3 x4 u_8 _ k
      obtain ⟨z_11, h6, k⟩ := k
      obtain ⟨h8, k⟩ := k
      obtain ⟨_, u_12, ⟨rfl, k⟩, hM7⟩ := c_D_functionChanged l Z z_11 x1 u_10 _ k
      have hle_u_12 : x_le u_12 u_12 := x_le.rf u_12
      have hle_u_10 : x_le u_10 u_12 := (hM7.1).tr hle_u_12
      have hle_u_8 : x_le u_8 u_12 := (hM4.1).tr hle_u_10
      have hle_u_7 : x_le u_7 u_12 := (hM2.1).tr hle_u_8
      have hle_u : x_le u u_12 := (hM1.1).tr hle_u_7
      refine Or.inl ⟨none, u_12, ⟨rfl, k⟩, hle_u, ?_⟩
      intro p e s m args below meth c A H locs ls F hw hl
      obtain ⟨⟨hx, hb, hml, hown, hts⟩, hr, hlocks, hmn⟩ := id F
      refine lv_iload_n hx hb d_H_quantify_0 rfl (lv_at hl 1 rfl) ?_
      refine lv_iload_n hx hb d_H_quantify_1 rfl (lv_at hl 2 rfl) ?_
      refine lv_iload_n hx hb d_H_quantify_2 rfl (lv_at hl 2 rfl) ?_
      refine xr_cS (As := [.int x1, .int x2, .int x2]) (rest := []) ⟨hx, hb, hml, hown, hts⟩ hw hM1 hle_u_7 (fun _ _ => ⟨callB_of 3 hts (xgood w_637) rfl rfl rfl (hts _ (xm w_1)) (hts _ (xm w_635)) ⟨by decide, by decide, by decide +kernel⟩ ⟨Nat.le_of_ble_eq_true rfl, Nat.le_of_ble_eq_true rfl⟩, (hts _ (xm w_636))⟩) rfl hl.1 rfl (Nat.le_of_ble_eq_true rfl) d_H_quantify_3 (fun H locs hw => ?_)
      refine W.eq (g2 := F0 m 6 ls []) rfl ?_
      refine lv_iload_n hx hb d_H_quantify_6 rfl (lv_at hl 3 rfl) ?_
      refine lv_sipush (v := 1024) hx hb d_H_quantify_7 (by decide) ?_
      refine xr_cS (As := [.int x3, .int 1024]) (rest := []) ⟨hx, hb, hml, hown, hts⟩ hw hM2 hle_u_8 (fun _ _ => ⟨callB_of 2 hts (xgood w_640) rfl rfl rfl (hts _ (xm w_1)) (hts _ (xm w_638)) ⟨by decide, by decide, by decide +kernel⟩ ⟨Nat.le_of_ble_eq_true rfl, Nat.le_of_ble_eq_true rfl⟩, (hts _ (xm w_639))⟩) rfl hl.1 rfl (Nat.le_of_ble_eq_true rfl) d_H_quantify_10 (fun H locs hw => ?_)
      refine W.eq (g2 := F0 m 13 ls []) rfl ?_
      refine lv_aload_n hx hb d_H_quantify_13 rfl (lv_at hl 0 rfl) ?_
      refine xr_get hx hb hts (xmu uws_H) hown hw h3 rfl (by decide) (hts _ (xm w_231)) (fun _ h9 => h9) d_H_quantify_14 ?_
      refine lv_iload_n hx hb d_H_quantify_17 rfl (lv_at hl 1 rfl) ?_
      refine lv_iload_n hx hb d_H_quantify_18 rfl (lv_at hl 2 rfl) ?_
      refine lv_iload_n hx hb d_H_quantify_19 rfl (lv_at hl 2 rfl) ?_
      refine lv_iload_n hx hb d_H_quantify_20 rfl (lv_at hl 3 rfl) ?_
      refine lv_iload hx hb d_H_quantify_21 (lv_at hl 4 rfl) ?_
      refine xr_cV (As := [.int x1, .int x2, .int x2, .int x3, .int x4]) (rest := []) ⟨hx, hb, hml, hown, hts⟩ hw hM4 hle_u_10 (fun _ _ => ⟨callB_of 5 hts (xgood w_710) rfl rfl rfl (hts _ (xm w_2)) (hts _ (xm w_707)) ⟨by decide, by decide, by decide +kernel⟩ ⟨Nat.le_of_ble_eq_true rfl, Nat.le_of_ble_eq_true rfl⟩, (hts _ (xm w_708)), (hts _ (xm w_709))⟩) (qc := (R_F, F_F, 5)) rfl rfl h5 rfl hl.1 rfl (Nat.le_of_ble_eq_true rfl) d_H_quantify_23 (fun H locs hw => ?_)
      refine W.eq (g2 := F0 m 26 ls []) rfl ?_
      refine lv_aload_n hx hb d_H_quantify_26 rfl (lv_at hl 0 rfl) ?_
      refine xr_get hx hb hts (xmu uws_H) hown hw h6 rfl (by decide) (hts _ (xm w_232)) (fun _ h9 => h9) d_H_quantify_27 ?_
      refine lv_iload_n hx hb d_H_quantify_30 rfl (lv_at hl 1 rfl) ?_
      refine xr_cV (As := [.int x1]) (rest := []) ⟨hx, hb, hml, hown, hts⟩ hw hM7 hle_u_12 (fun _ _ => ⟨callB_of 1 hts (xgood w_612) rfl rfl rfl (hts _ (xm w_3)) (hts _ (xm w_609)) ⟨by decide, by decide, by decide +kernel⟩ ⟨Nat.le_of_ble_eq_true rfl, Nat.le_of_ble_eq_true rfl⟩, (hts _ (xm w_610)), (hts _ (xm w_611))⟩) (qc := (R_D, F_D, 13)) rfl rfl h8 rfl hl.1 rfl (Nat.le_of_ble_eq_true rfl) d_H_quantify_31 (fun H locs hw => ?_)
      refine W.eq (g2 := F0 m 34 ls []) rfl ?_
      exact xr_vret F rfl hw d_H_quantify_34
    ·
      have hle_u_8 : x_le u_8 u_8 := x_le.rf u_8
      have hle_u_7 : x_le u_7 u_8 := (hM2.1).tr hle_u_8
      have hle_u : x_le u u_8 := (hM1.1).tr hle_u_7
      refine Or.inr ⟨E9, u_8, k, hle_u, ?_⟩
      intro p e s m args below meth c A H locs ls F hno hw hl
      obtain ⟨⟨hx, hb, hml, hown, hts⟩, hr, hlocks, hmn⟩ := id F
      refine lv_iload_n hx hb d_H_quantify_0 rfl (lv_at hl 1 rfl) ?_
      refine lv_iload_n hx hb d_H_quantify_1 rfl (lv_at hl 2 rfl) ?_
      refine lv_iload_n hx hb d_H_quantify_2 rfl (lv_at hl 2 rfl) ?_
      refine xr_cS (As := [.int x1, .int x2, .int x2]) (rest := []) ⟨hx, hb, hml, hown, hts⟩ hw hM1 hle_u_7 (fun _ _ => ⟨callB_of 3 hts (xgood w_637) rfl rfl rfl (hts _ (xm w_1)) (hts _ (xm w_635)) ⟨by decide, by decide, by decide +kernel⟩ ⟨Nat.le_of_ble_eq_true rfl, Nat.le_of_ble_eq_true rfl⟩, (hts _ (xm w_636))⟩) rfl hl.1 rfl (Nat.le_of_ble_eq_true rfl) d_H_quantify_3 (fun H locs hw => ?_)
      refine W.eq (g2 := F0 m 6 ls []) rfl ?_
      refine lv_iload_n hx hb d_H_quantify_6 rfl (lv_at hl 3 rfl) ?_
      refine lv_sipush (v := 1024) hx hb d_H_quantify_7 (by decide) ?_
      refine xt_cS (As := [.int x3, .int 1024]) (rest := []) ⟨hx, hb, hml, hown, hts⟩ hw hM2 hle_u_8 (fun _ _ => ⟨callB_of 2 hts (xgood w_640) rfl rfl rfl (hts _ (xm w_1)) (hts _ (xm w_638)) ⟨by decide, by decide, by decide +kernel⟩ ⟨Nat.le_of_ble_eq_true rfl, Nat.le_of_ble_eq_true rfl⟩, (hts _ (xm w_639))⟩) rfl hl.1 rfl (Nat.le_of_ble_eq_true rfl) d_H_quantify_10 (fun q9 ce H locs T9 hw hce hcv hcl hT X9 => ?_)
      exact xt_out F hno hw hce hcv hcl hT X9
  ·
    have hle_u_7 : x_le u_7 u_7 := x_le.rf u_7
    have hle_u : x_le u u_7 := (hM1.1).tr hle_u_7
    refine Or.inr ⟨E9, u_7, k, hle_u, ?_⟩
    intro p e s m args below meth c A H locs ls F hno hw hl
    obtain ⟨⟨hx, hb, hml, hown, hts⟩, hr, hlocks, hmn⟩ := id F
    refine lv_iload_n hx hb d_H_quantify_0 rfl (lv_at hl 1 rfl) ?_
    refine lv_iload_n hx hb d_H_quantify_1 rfl (lv_at hl 2 rfl) ?_
    refine lv_iload_n hx hb d_H_quantify_2 rfl (lv_at hl 2 rfl) ?_
    refine xt_cS (As := [.int x1, .int x2, .int x2]) (rest := []) ⟨hx, hb, hml, hown, hts⟩ hw hM1 hle_u_7 (fun _ _ => ⟨callB_of 3 hts (xgood w_637) rfl rfl rfl (hts _ (xm w_1)) (hts _ (xm w_635)) ⟨by decide, by decide, by decide +kernel⟩ ⟨Nat.le_of_ble_eq_true rfl, Nat.le_of_ble_eq_true rfl⟩, (hts _ (xm w_636))⟩) rfl hl.1 rfl (Nat.le_of_ble_eq_true rfl) d_H_quantify_3 (fun q9 ce H locs T9 hw hce hcv hcl hT X9 => ?_)
    exact xt_out F hno hw hce hcv hcl hT X9
set_option maxRecDepth 100000 in
set_option maxHeartbeats 4000000 in
theorem c_H_meet (l : Launch) (Z : XZ) (x0 : Nat) (x1 : Int32) (x2 : Int32) (x3 : Int32) (x4 : Int32) (u : PS) (K : PS → Prop) (X : String → PS → Prop) (k : p_H_meet x0 x1 x2 x3 x4 u K X) : (∃ (rv : Option Value) (u1 : PS), (kV K) rv u1 ∧ XMet l Z i_H_meet [.ref x0, .int x1, .int x2, .int x3, .int x4] u rv u1) ∨ ∃ (E : String) (u1 : PS), X E u1 ∧ XMt l Z i_H_meet [.ref x0, .int x1, .int x2, .int x3, .int x4] u E u1 := by
  refine x_metx (by decide) rfl (Nat.le_of_ble_eq_true rfl) ?_
  show XNx l Z i_H_meet u (kV K) X u 0 [(0, .ref x0), (1, .int x1), (2, .int x2), (3, .int x3), (4, .int x4)] []
  unfold p_H_meet at k
  rcases c_H_needPlaces l Z x1 x2 x3 u _ _ k with ⟨_, u_7, ⟨rfl, k⟩, hM1⟩ | ⟨E9, u_7, k, hM1⟩
  ·
    rcases c_H_needBelow l Z x4 (1024 : Int32) u_7 _ _ k with ⟨_, u_8, ⟨rfl, k⟩, hM2⟩ | ⟨E9, u_8, k, hM2⟩
    ·
      obtain ⟨z_9, h3, k⟩ := k
      obtain ⟨h5, k⟩ := k
      obtain ⟨_, u_10, ⟨rfl, k⟩, hM4⟩ := c_F_project l Z z_9 x1 x2 x3 x4 (0 : Int32) u_8 _ k
      obtain ⟨z_11, h6, k⟩ := k
      obtain ⟨h8, k⟩ := k
      obtain ⟨_, u_12, ⟨rfl, k⟩, hM7⟩ := c_D_functionChanged l Z z_11 x1 u_10 _ k
      have hle_u_12 : x_le u_12 u_12 := x_le.rf u_12
      have hle_u_10 : x_le u_10 u_12 := (hM7.1).tr hle_u_12
      have hle_u_8 : x_le u_8 u_12 := (hM4.1).tr hle_u_10
      have hle_u_7 : x_le u_7 u_12 := (hM2.1).tr hle_u_8
      have hle_u : x_le u u_12 := (hM1.1).tr hle_u_7
      refine Or.inl ⟨none, u_12, ⟨rfl, k⟩, hle_u, ?_⟩
      intro p e s m args below meth c A H locs ls F hw hl
      obtain ⟨⟨hx, hb, hml, hown, hts⟩, hr, hlocks, hmn⟩ := id F
      refine lv_iload_n hx hb d_H_meet_0 rfl (lv_at hl 1 rfl) ?_
      refine lv_iload_n hx hb d_H_meet_1 rfl (lv_at hl 2 rfl) ?_
      refine lv_iload_n hx hb d_H_meet_2 rfl (lv_at hl 3 rfl) ?_
      refine xr_cS (As := [.int x1, .int x2, .int x3]) (rest := []) ⟨hx, hb, hml, hown, hts⟩ hw hM1 hle_u_7 (fun _ _ => ⟨callB_of 3 hts (xgood w_637) rfl rfl rfl (hts _ (xm w_1)) (hts _ (xm w_635)) ⟨by decide, by decide, by decide +kernel⟩ ⟨Nat.le_of_ble_eq_true rfl, Nat.le_of_ble_eq_true rfl⟩, (hts _ (xm w_636))⟩) rfl hl.1 rfl (Nat.le_of_ble_eq_true rfl) d_H_meet_3 (fun H locs hw => ?_)
      refine W.eq (g2 := F0 m 6 ls []) rfl ?_
      refine lv_iload hx hb d_H_meet_6 (lv_at hl 4 rfl) ?_
      refine lv_sipush (v := 1024) hx hb d_H_meet_8 (by decide) ?_
      refine xr_cS (As := [.int x4, .int 1024]) (rest := []) ⟨hx, hb, hml, hown, hts⟩ hw hM2 hle_u_8 (fun _ _ => ⟨callB_of 2 hts (xgood w_640) rfl rfl rfl (hts _ (xm w_1)) (hts _ (xm w_638)) ⟨by decide, by decide, by decide +kernel⟩ ⟨Nat.le_of_ble_eq_true rfl, Nat.le_of_ble_eq_true rfl⟩, (hts _ (xm w_639))⟩) rfl hl.1 rfl (Nat.le_of_ble_eq_true rfl) d_H_meet_11 (fun H locs hw => ?_)
      refine W.eq (g2 := F0 m 14 ls []) rfl ?_
      refine lv_aload_n hx hb d_H_meet_14 rfl (lv_at hl 0 rfl) ?_
      refine xr_get hx hb hts (xmu uws_H) hown hw h3 rfl (by decide) (hts _ (xm w_231)) (fun _ h9 => h9) d_H_meet_15 ?_
      refine lv_iload_n hx hb d_H_meet_18 rfl (lv_at hl 1 rfl) ?_
      refine lv_iload_n hx hb d_H_meet_19 rfl (lv_at hl 2 rfl) ?_
      refine lv_iload_n hx hb d_H_meet_20 rfl (lv_at hl 3 rfl) ?_
      refine lv_iload hx hb d_H_meet_21 (lv_at hl 4 rfl) ?_
      refine lv_iconst (v := 0) hx hb d_H_meet_23 (by decide) ?_
      refine xr_cV (As := [.int x1, .int x2, .int x3, .int x4, .int 0]) (rest := []) ⟨hx, hb, hml, hown, hts⟩ hw hM4 hle_u_10 (fun _ _ => ⟨callB_of 5 hts (xgood w_710) rfl rfl rfl (hts _ (xm w_2)) (hts _ (xm w_707)) ⟨by decide, by decide, by decide +kernel⟩ ⟨Nat.le_of_ble_eq_true rfl, Nat.le_of_ble_eq_true rfl⟩, (hts _ (xm w_708)), (hts _ (xm w_709))⟩) (qc := (R_F, F_F, 5)) rfl rfl h5 rfl hl.1 rfl (Nat.le_of_ble_eq_true rfl) d_H_meet_24 (fun H locs hw => ?_)
      refine W.eq (g2 := F0 m 27 ls []) rfl ?_
      refine lv_aload_n hx hb d_H_meet_27 rfl (lv_at hl 0 rfl) ?_
      refine xr_get hx hb hts (xmu uws_H) hown hw h6 rfl (by decide) (hts _ (xm w_232)) (fun _ h9 => h9) d_H_meet_28 ?_
      refine lv_iload_n hx hb d_H_meet_31 rfl (lv_at hl 1 rfl) ?_
      refine xr_cV (As := [.int x1]) (rest := []) ⟨hx, hb, hml, hown, hts⟩ hw hM7 hle_u_12 (fun _ _ => ⟨callB_of 1 hts (xgood w_612) rfl rfl rfl (hts _ (xm w_3)) (hts _ (xm w_609)) ⟨by decide, by decide, by decide +kernel⟩ ⟨Nat.le_of_ble_eq_true rfl, Nat.le_of_ble_eq_true rfl⟩, (hts _ (xm w_610)), (hts _ (xm w_611))⟩) (qc := (R_D, F_D, 13)) rfl rfl h8 rfl hl.1 rfl (Nat.le_of_ble_eq_true rfl) d_H_meet_32 (fun H locs hw => ?_)
      refine W.eq (g2 := F0 m 35 ls []) rfl ?_
      exact xr_vret F rfl hw d_H_meet_35
    ·
      have hle_u_8 : x_le u_8 u_8 := x_le.rf u_8
      have hle_u_7 : x_le u_7 u_8 := (hM2.1).tr hle_u_8
      have hle_u : x_le u u_8 := (hM1.1).tr hle_u_7
      refine Or.inr ⟨E9, u_8, k, hle_u, ?_⟩
      intro p e s m args below meth c A H locs ls F hno hw hl
      obtain ⟨⟨hx, hb, hml, hown, hts⟩, hr, hlocks, hmn⟩ := id F
      refine lv_iload_n hx hb d_H_meet_0 rfl (lv_at hl 1 rfl) ?_
      refine lv_iload_n hx hb d_H_meet_1 rfl (lv_at hl 2 rfl) ?_
      refine lv_iload_n hx hb d_H_meet_2 rfl (lv_at hl 3 rfl) ?_
      refine xr_cS (As := [.int x1, .int x2, .int x3]) (rest := []) ⟨hx, hb, hml, hown, hts⟩ hw hM1 hle_u_7 (fun _ _ => ⟨callB_of 3 hts (xgood w_637) rfl rfl rfl (hts _ (xm w_1)) (hts _ (xm w_635)) ⟨by decide, by decide, by decide +kernel⟩ ⟨Nat.le_of_ble_eq_true rfl, Nat.le_of_ble_eq_true rfl⟩, (hts _ (xm w_636))⟩) rfl hl.1 rfl (Nat.le_of_ble_eq_true rfl) d_H_meet_3 (fun H locs hw => ?_)
      refine W.eq (g2 := F0 m 6 ls []) rfl ?_
      refine lv_iload hx hb d_H_meet_6 (lv_at hl 4 rfl) ?_
      refine lv_sipush (v := 1024) hx hb d_H_meet_8 (by decide) ?_
      refine xt_cS (As := [.int x4, .int 1024]) (rest := []) ⟨hx, hb, hml, hown, hts⟩ hw hM2 hle_u_8 (fun _ _ => ⟨callB_of 2 hts (xgood w_640) rfl rfl rfl (hts _ (xm w_1)) (hts _ (xm w_638)) ⟨by decide, by decide, by decide +kernel⟩ ⟨Nat.le_of_ble_eq_true rfl, Nat.le_of_ble_eq_true rfl⟩, (hts _ (xm w_639))⟩) rfl hl.1 rfl (Nat.le_of_ble_eq_true rfl) d_H_meet_11 (fun q9 ce H locs T9 hw hce hcv hcl hT X9 => ?_)
      exact xt_out F hno hw hce hcv hcl hT X9
  ·
    have hle_u_7 : x_le u_7 u_7 := x_le.rf u_7
    have hle_u : x_le u u_7 := (hM1.1).tr hle_u_7
    refine Or.inr ⟨E9, u_7, k, hle_u, ?_⟩
    intro p e s m args below meth c A H locs ls F hno hw hl
    obtain ⟨⟨hx, hb, hml, hown, hts⟩, hr, hlocks, hmn⟩ := id F
    refine lv_iload_n hx hb d_H_meet_0 rfl (lv_at hl 1 rfl) ?_
    refine lv_iload_n hx hb d_H_meet_1 rfl (lv_at hl 2 rfl) ?_
    refine lv_iload_n hx hb d_H_meet_2 rfl (lv_at hl 3 rfl) ?_
    refine xt_cS (As := [.int x1, .int x2, .int x3]) (rest := []) ⟨hx, hb, hml, hown, hts⟩ hw hM1 hle_u_7 (fun _ _ => ⟨callB_of 3 hts (xgood w_637) rfl rfl rfl (hts _ (xm w_1)) (hts _ (xm w_635)) ⟨by decide, by decide, by decide +kernel⟩ ⟨Nat.le_of_ble_eq_true rfl, Nat.le_of_ble_eq_true rfl⟩, (hts _ (xm w_636))⟩) rfl hl.1 rfl (Nat.le_of_ble_eq_true rfl) d_H_meet_3 (fun q9 ce H locs T9 hw hce hcv hcl hT X9 => ?_)
    exact xt_out F hno hw hce hcv hcl hT X9
set_option maxRecDepth 100000 in
set_option maxHeartbeats 4000000 in
theorem c_H_move (l : Launch) (Z : XZ) (x0 : Nat) (x1 : Int32) (x2 : Int32) (u : PS) (K : Int32 → PS → Prop) (X : String → PS → Prop) (k : p_H_move x0 x1 x2 u K X) : (∃ (rv : Option Value) (u1 : PS), (kI K) rv u1 ∧ XMet l Z i_H_move [.ref x0, .int x1, .int x2] u rv u1) ∨ ∃ (E : String) (u1 : PS), X E u1 ∧ XMt l Z i_H_move [.ref x0, .int x1, .int x2] u E u1 := by
  refine x_metx (by decide) rfl (Nat.le_of_ble_eq_true rfl) ?_
  show XNx l Z i_H_move u (kI K) X u 0 [(0, .ref x0), (1, .int x1), (2, .int x2)] []
  unfold p_H_move at k
  rcases c_H_needInput l Z x1 u _ _ k with ⟨_, u_10, ⟨rfl, k⟩, hM1⟩ | ⟨E9, u_10, k, hM1⟩
  ·
    rcases c_H_needBelow l Z x2 (10 : Int32) u_10 _ _ k with ⟨_, u_11, ⟨rfl, k⟩, hM2⟩ | ⟨E9, u_11, k, hM2⟩
    ·
      obtain ⟨z_12, h3, k⟩ := k
      obtain ⟨h5, k⟩ := k
      obtain ⟨_, u_13, ⟨rfl, k⟩, hM4⟩ := c_D_draw l Z z_12 (16777215 : Int32) u_11 _ k
      obtain ⟨z_14, h6, k⟩ := k
      obtain ⟨h8, k⟩ := k
      obtain ⟨_, u_15, ⟨rfl, k⟩, hM7⟩ := c_D_moveTo l Z z_14 x1 x2 u_13 _ k
      obtain ⟨z_16, h9, k⟩ := k
      obtain ⟨h11, k⟩ := k
      obtain ⟨_, u_17, ⟨r_18, rfl, k⟩, hM10⟩ := c_D_wholeSize l Z z_16 u_15 _ k
      have hle_u_17 : x_le u_17 u_17 := x_le.rf u_17
      have hle_u_15 : x_le u_15 u_17 := (hM10.1).tr hle_u_17
      have hle_u_13 : x_le u_13 u_17 := (hM7.1).tr hle_u_15
      have hle_u_11 : x_le u_11 u_17 := (hM4.1).tr hle_u_13
      have hle_u_10 : x_le u_10 u_17 := (hM2.1).tr hle_u_11
      have hle_u : x_le u u_17 := (hM1.1).tr hle_u_10
      refine Or.inl ⟨some (.int r_18), u_17, ⟨r_18, rfl, k⟩, hle_u, ?_⟩
      intro p e s m args below meth c A H locs ls F hw hl
      obtain ⟨⟨hx, hb, hml, hown, hts⟩, hr, hlocks, hmn⟩ := id F
      refine lv_iload_n hx hb d_H_move_0 rfl (lv_at hl 1 rfl) ?_
      refine xr_cS (As := [.int x1]) (rest := []) ⟨hx, hb, hml, hown, hts⟩ hw hM1 hle_u_10 (fun _ _ => ⟨callB_of 1 hts (xgood w_622) rfl rfl rfl (hts _ (xm w_1)) (hts _ (xm w_620)) ⟨by decide, by decide, by decide +kernel⟩ ⟨Nat.le_of_ble_eq_true rfl, Nat.le_of_ble_eq_true rfl⟩, (hts _ (xm w_621))⟩) rfl hl.1 rfl (Nat.le_of_ble_eq_true rfl) d_H_move_1 (fun H locs hw => ?_)
      refine W.eq (g2 := F0 m 4 ls []) rfl ?_
      refine lv_iload_n hx hb d_H_move_4 rfl (lv_at hl 2 rfl) ?_
      refine lv_bipush (v := 10) hx hb d_H_move_5 (by decide) ?_
      refine xr_cS (As := [.int x2, .int 10]) (rest := []) ⟨hx, hb, hml, hown, hts⟩ hw hM2 hle_u_11 (fun _ _ => ⟨callB_of 2 hts (xgood w_640) rfl rfl rfl (hts _ (xm w_1)) (hts _ (xm w_638)) ⟨by decide, by decide, by decide +kernel⟩ ⟨Nat.le_of_ble_eq_true rfl, Nat.le_of_ble_eq_true rfl⟩, (hts _ (xm w_639))⟩) rfl hl.1 rfl (Nat.le_of_ble_eq_true rfl) d_H_move_7 (fun H locs hw => ?_)
      refine W.eq (g2 := F0 m 10 ls []) rfl ?_
      refine lv_aload_n hx hb d_H_move_10 rfl (lv_at hl 0 rfl) ?_
      refine xr_get hx hb hts (xmu uws_H) hown hw h3 rfl (by decide) (hts _ (xm w_232)) (fun _ h9 => h9) d_H_move_11 ?_
      refine lv_ldc (v := 16777215) hx hb hown (hts _ (xm w_242)) d_H_move_14 ?_
      refine xr_cV (As := [.int 16777215]) (rest := []) ⟨hx, hb, hml, hown, hts⟩ hw hM4 hle_u_13 (fun _ _ => ⟨callB_of 1 hts (xgood w_246) rfl rfl rfl (hts _ (xm w_3)) (hts _ (xm w_243)) ⟨by decide, by decide, by decide +kernel⟩ ⟨Nat.le_of_ble_eq_true rfl, Nat.le_of_ble_eq_true rfl⟩, (hts _ (xm w_244)), (hts _ (xm w_245))⟩) (qc := (R_D, F_D, 13)) rfl rfl h5 rfl hl.1 rfl (Nat.le_of_ble_eq_true rfl) d_H_move_16 (fun H locs hw => ?_)
      refine W.eq (g2 := F0 m 19 ls []) rfl ?_
      refine lv_aload_n hx hb d_H_move_19 rfl (lv_at hl 0 rfl) ?_
      refine xr_get hx hb hts (xmu uws_H) hown hw h6 rfl (by decide) (hts _ (xm w_232)) (fun _ h9 => h9) d_H_move_20 ?_
      refine lv_iload_n hx hb d_H_move_23 rfl (lv_at hl 1 rfl) ?_
      refine lv_iload_n hx hb d_H_move_24 rfl (lv_at hl 2 rfl) ?_
      refine xr_cV (As := [.int x1, .int x2]) (rest := []) ⟨hx, hb, hml, hown, hts⟩ hw hM7 hle_u_15 (fun _ _ => ⟨callB_of 2 hts (xgood w_735) rfl rfl rfl (hts _ (xm w_3)) (hts _ (xm w_732)) ⟨by decide, by decide, by decide +kernel⟩ ⟨Nat.le_of_ble_eq_true rfl, Nat.le_of_ble_eq_true rfl⟩, (hts _ (xm w_733)), (hts _ (xm w_734))⟩) (qc := (R_D, F_D, 13)) rfl rfl h8 rfl hl.1 rfl (Nat.le_of_ble_eq_true rfl) d_H_move_25 (fun H locs hw => ?_)
      refine W.eq (g2 := F0 m 28 ls []) rfl ?_
      refine lv_aload_n hx hb d_H_move_28 rfl (lv_at hl 0 rfl) ?_
      refine xr_get hx hb hts (xmu uws_H) hown hw h9 rfl (by decide) (hts _ (xm w_232)) (fun _ h9 => h9) d_H_move_29 ?_
      refine xr_cV (As := []) (rest := []) ⟨hx, hb, hml, hown, hts⟩ hw hM10 hle_u_17 (fun _ _ => ⟨callB_of 0 hts (xgood w_506) rfl rfl rfl (hts _ (xm w_3)) (hts _ (xm w_503)) ⟨by decide, by decide, by decide +kernel⟩ ⟨Nat.le_of_ble_eq_true rfl, Nat.le_of_ble_eq_true rfl⟩, (hts _ (xm w_504)), (hts _ (xm w_505))⟩) (qc := (R_D, F_D, 13)) rfl rfl h11 rfl hl.1 rfl (Nat.le_of_ble_eq_true rfl) d_H_move_32 (fun H locs hw => ?_)
      refine W.eq (g2 := F0 m 35 ls [.int r_18]) rfl ?_
      exact xr_iret F rfl hw d_H_move_35
    ·
      have hle_u_11 : x_le u_11 u_11 := x_le.rf u_11
      have hle_u_10 : x_le u_10 u_11 := (hM2.1).tr hle_u_11
      have hle_u : x_le u u_11 := (hM1.1).tr hle_u_10
      refine Or.inr ⟨E9, u_11, k, hle_u, ?_⟩
      intro p e s m args below meth c A H locs ls F hno hw hl
      obtain ⟨⟨hx, hb, hml, hown, hts⟩, hr, hlocks, hmn⟩ := id F
      refine lv_iload_n hx hb d_H_move_0 rfl (lv_at hl 1 rfl) ?_
      refine xr_cS (As := [.int x1]) (rest := []) ⟨hx, hb, hml, hown, hts⟩ hw hM1 hle_u_10 (fun _ _ => ⟨callB_of 1 hts (xgood w_622) rfl rfl rfl (hts _ (xm w_1)) (hts _ (xm w_620)) ⟨by decide, by decide, by decide +kernel⟩ ⟨Nat.le_of_ble_eq_true rfl, Nat.le_of_ble_eq_true rfl⟩, (hts _ (xm w_621))⟩) rfl hl.1 rfl (Nat.le_of_ble_eq_true rfl) d_H_move_1 (fun H locs hw => ?_)
      refine W.eq (g2 := F0 m 4 ls []) rfl ?_
      refine lv_iload_n hx hb d_H_move_4 rfl (lv_at hl 2 rfl) ?_
      refine lv_bipush (v := 10) hx hb d_H_move_5 (by decide) ?_
      refine xt_cS (As := [.int x2, .int 10]) (rest := []) ⟨hx, hb, hml, hown, hts⟩ hw hM2 hle_u_11 (fun _ _ => ⟨callB_of 2 hts (xgood w_640) rfl rfl rfl (hts _ (xm w_1)) (hts _ (xm w_638)) ⟨by decide, by decide, by decide +kernel⟩ ⟨Nat.le_of_ble_eq_true rfl, Nat.le_of_ble_eq_true rfl⟩, (hts _ (xm w_639))⟩) rfl hl.1 rfl (Nat.le_of_ble_eq_true rfl) d_H_move_7 (fun q9 ce H locs T9 hw hce hcv hcl hT X9 => ?_)
      exact xt_out F hno hw hce hcv hcl hT X9
  ·
    have hle_u_10 : x_le u_10 u_10 := x_le.rf u_10
    have hle_u : x_le u u_10 := (hM1.1).tr hle_u_10
    refine Or.inr ⟨E9, u_10, k, hle_u, ?_⟩
    intro p e s m args below meth c A H locs ls F hno hw hl
    obtain ⟨⟨hx, hb, hml, hown, hts⟩, hr, hlocks, hmn⟩ := id F
    refine lv_iload_n hx hb d_H_move_0 rfl (lv_at hl 1 rfl) ?_
    refine xt_cS (As := [.int x1]) (rest := []) ⟨hx, hb, hml, hown, hts⟩ hw hM1 hle_u_10 (fun _ _ => ⟨callB_of 1 hts (xgood w_622) rfl rfl rfl (hts _ (xm w_1)) (hts _ (xm w_620)) ⟨by decide, by decide, by decide +kernel⟩ ⟨Nat.le_of_ble_eq_true rfl, Nat.le_of_ble_eq_true rfl⟩, (hts _ (xm w_621))⟩) rfl hl.1 rfl (Nat.le_of_ble_eq_true rfl) d_H_move_1 (fun q9 ce H locs T9 hw hce hcv hcl hT X9 => ?_)
    exact xt_out F hno hw hce hcv hcl hT X9
set_option maxRecDepth 100000 in
set_option maxHeartbeats 4000000 in
theorem c_H_sift (l : Launch) (Z : XZ) (x0 : Nat) (x1 : Int32) (u : PS) (K : Int32 → PS → Prop) (X : String → PS → Prop) (k : p_H_sift x0 x1 u K X) : (∃ (rv : Option Value) (u1 : PS), (kI K) rv u1 ∧ XMet l Z i_H_sift [.ref x0, .int x1] u rv u1) ∨ ∃ (E : String) (u1 : PS), X E u1 ∧ XMt l Z i_H_sift [.ref x0, .int x1] u E u1 := by
  refine x_metx (by decide) rfl (Nat.le_of_ble_eq_true rfl) ?_
  show XNx l Z i_H_sift u (kI K) X u 0 [(0, .ref x0), (1, .int x1)] []
  unfold p_H_sift at k
  rcases c_H_needInput l Z x1 u _ _ k with ⟨_, u_7, ⟨rfl, k⟩, hM1⟩ | ⟨E9, u_7, k, hM1⟩
  ·
    obtain ⟨z_8, h2, k⟩ := k
    obtain ⟨h4, k⟩ := k
    obtain ⟨_, u_9, ⟨rfl, k⟩, hM3⟩ := c_D_draw l Z z_8 (16777215 : Int32) u_7 _ k
    obtain ⟨z_10, h5, k⟩ := k
    obtain ⟨h7, k⟩ := k
    obtain ⟨_, u_11, ⟨r_12, rfl, k⟩, hM6⟩ := c_D_settle l Z z_10 x1 u_9 _ k
    have hle_u_11 : x_le u_11 u_11 := x_le.rf u_11
    have hle_u_9 : x_le u_9 u_11 := (hM6.1).tr hle_u_11
    have hle_u_7 : x_le u_7 u_11 := (hM3.1).tr hle_u_9
    have hle_u : x_le u u_11 := (hM1.1).tr hle_u_7
    refine Or.inl ⟨some (.int r_12), u_11, ⟨r_12, rfl, k⟩, hle_u, ?_⟩
    intro p e s m args below meth c A H locs ls F hw hl
    obtain ⟨⟨hx, hb, hml, hown, hts⟩, hr, hlocks, hmn⟩ := id F
    refine lv_iload_n hx hb d_H_sift_0 rfl (lv_at hl 1 rfl) ?_
    refine xr_cS (As := [.int x1]) (rest := []) ⟨hx, hb, hml, hown, hts⟩ hw hM1 hle_u_7 (fun _ _ => ⟨callB_of 1 hts (xgood w_622) rfl rfl rfl (hts _ (xm w_1)) (hts _ (xm w_620)) ⟨by decide, by decide, by decide +kernel⟩ ⟨Nat.le_of_ble_eq_true rfl, Nat.le_of_ble_eq_true rfl⟩, (hts _ (xm w_621))⟩) rfl hl.1 rfl (Nat.le_of_ble_eq_true rfl) d_H_sift_1 (fun H locs hw => ?_)
    refine W.eq (g2 := F0 m 4 ls []) rfl ?_
    refine lv_aload_n hx hb d_H_sift_4 rfl (lv_at hl 0 rfl) ?_
    refine xr_get hx hb hts (xmu uws_H) hown hw h2 rfl (by decide) (hts _ (xm w_232)) (fun _ h9 => h9) d_H_sift_5 ?_
    refine lv_ldc (v := 16777215) hx hb hown (hts _ (xm w_242)) d_H_sift_8 ?_
    refine xr_cV (As := [.int 16777215]) (rest := []) ⟨hx, hb, hml, hown, hts⟩ hw hM3 hle_u_9 (fun _ _ => ⟨callB_of 1 hts (xgood w_246) rfl rfl rfl (hts _ (xm w_3)) (hts _ (xm w_243)) ⟨by decide, by decide, by decide +kernel⟩ ⟨Nat.le_of_ble_eq_true rfl, Nat.le_of_ble_eq_true rfl⟩, (hts _ (xm w_244)), (hts _ (xm w_245))⟩) (qc := (R_D, F_D, 13)) rfl rfl h4 rfl hl.1 rfl (Nat.le_of_ble_eq_true rfl) d_H_sift_10 (fun H locs hw => ?_)
    refine W.eq (g2 := F0 m 13 ls []) rfl ?_
    refine lv_aload_n hx hb d_H_sift_13 rfl (lv_at hl 0 rfl) ?_
    refine xr_get hx hb hts (xmu uws_H) hown hw h5 rfl (by decide) (hts _ (xm w_232)) (fun _ h9 => h9) d_H_sift_14 ?_
    refine lv_iload_n hx hb d_H_sift_17 rfl (lv_at hl 1 rfl) ?_
    refine xr_cV (As := [.int x1]) (rest := []) ⟨hx, hb, hml, hown, hts⟩ hw hM6 hle_u_11 (fun _ _ => ⟨callB_of 1 hts (xgood w_403) rfl rfl rfl (hts _ (xm w_3)) (hts _ (xm w_400)) ⟨by decide, by decide, by decide +kernel⟩ ⟨Nat.le_of_ble_eq_true rfl, Nat.le_of_ble_eq_true rfl⟩, (hts _ (xm w_401)), (hts _ (xm w_402))⟩) (qc := (R_D, F_D, 13)) rfl rfl h7 rfl hl.1 rfl (Nat.le_of_ble_eq_true rfl) d_H_sift_18 (fun H locs hw => ?_)
    refine W.eq (g2 := F0 m 21 ls [.int r_12]) rfl ?_
    exact xr_iret F rfl hw d_H_sift_21
  ·
    have hle_u_7 : x_le u_7 u_7 := x_le.rf u_7
    have hle_u : x_le u u_7 := (hM1.1).tr hle_u_7
    refine Or.inr ⟨E9, u_7, k, hle_u, ?_⟩
    intro p e s m args below meth c A H locs ls F hno hw hl
    obtain ⟨⟨hx, hb, hml, hown, hts⟩, hr, hlocks, hmn⟩ := id F
    refine lv_iload_n hx hb d_H_sift_0 rfl (lv_at hl 1 rfl) ?_
    refine xt_cS (As := [.int x1]) (rest := []) ⟨hx, hb, hml, hown, hts⟩ hw hM1 hle_u_7 (fun _ _ => ⟨callB_of 1 hts (xgood w_622) rfl rfl rfl (hts _ (xm w_1)) (hts _ (xm w_620)) ⟨by decide, by decide, by decide +kernel⟩ ⟨Nat.le_of_ble_eq_true rfl, Nat.le_of_ble_eq_true rfl⟩, (hts _ (xm w_621))⟩) rfl hl.1 rfl (Nat.le_of_ble_eq_true rfl) d_H_sift_1 (fun q9 ce H locs T9 hw hce hcv hcl hT X9 => ?_)
    exact xt_out F hno hw hce hcv hcl hT X9
set_option maxRecDepth 100000 in
set_option maxHeartbeats 4000000 in
theorem t_H_order_J10 (l : Launch) (Z : XZ) (u0 : PS) {K : Int32 → PS → Prop} {X : String → PS → Prop} (u : PS) (k : (p_H_order_J10 K X u)) : XNx l Z i_H_order u0 (kI K) X u 10 [] [] := by
  unfold p_H_order_J10 at k
  have hle_u : x_le u (x_th u) := x_th.le u
  refine Or.inr ⟨"java/lang/IndexOutOfBoundsException", (x_th u), k, hle_u, ?_⟩
  intro p e s m args below meth c A H locs ls F hno hw hl
  obtain ⟨⟨hx, hb, hml, hown, hts⟩, hr, hlocks, hmn⟩ := id F
  obtain ⟨sa9, hsa9⟩ := xt_text hw.2.2.2.2.2.1 (own := "DiagramHouse") (k := 95) (tx := "no such place of the order") (List.mem_of_getElem? (i := 750) (by decide +kernel)) (by decide +kernel)
  exact xt_throw (cls := "java/lang/IndexOutOfBoundsException") (text := "no such place of the order") (names := ["java/lang/RuntimeException", "java/lang/Exception"]) (ik := 93) (is := 95) (ic := 97) F hno hw (by decide +kernel) (by decide +kernel) (hts _ (xm w_519)) (hts _ (xm w_12)) rfl rfl hsa9 (fun w9 h9 => (oa_H_97 w9 h9).imp (fun h8 => ⟨hts _ (xm (List.mem_filter.mpr h8)), h8.2⟩) id) (hl.1.trans hml.symm) d_H_order_10 d_H_order_13 d_H_order_14 d_H_order_16 d_H_order_19 (by decide) (by decide)
set_option maxRecDepth 100000 in
set_option maxHeartbeats 4000000 in
theorem c_H_order (l : Launch) (Z : XZ) (x0 : Nat) (x1 : Int32) (u : PS) (K : Int32 → PS → Prop) (X : String → PS → Prop) (k : p_H_order x0 x1 u K X) : (∃ (rv : Option Value) (u1 : PS), (kI K) rv u1 ∧ XMet l Z i_H_order [.ref x0, .int x1] u rv u1) ∨ ∃ (E : String) (u1 : PS), X E u1 ∧ XMt l Z i_H_order [.ref x0, .int x1] u E u1 := by
  refine x_metx (by decide) rfl (Nat.le_of_ble_eq_true rfl) ?_
  show XNx l Z i_H_order u (kI K) X u 0 [(0, .ref x0), (1, .int x1)] []
  unfold p_H_order at k
  by_cases hc1 : x1 < 0
  · have k := k.1 hc1
    rcases t_H_order_J10 l Z u u k with ⟨rv, v9, hK, hle_u, w9⟩ | ⟨rv, v9, hK, hle_u, w9⟩
    ·
      refine Or.inl ⟨rv, v9, hK, hle_u, ?_⟩
      intro p e s m args below meth c A H locs ls F hw hl
      obtain ⟨⟨hx, hb, hml, hown, hts⟩, hr, hlocks, hmn⟩ := id F
      refine lv_iload_n hx hb d_H_order_0 rfl (lv_at hl 1 rfl) ?_
      refine lv_if_lt (tgt := 10) hx hb d_H_order_1 (by decide) (fun _ => ?_) (fun c9 => absurd hc1 c9)
      exact w9 p e s m args below meth c A H locs ls F hw (lv_sub hl [] rfl)
    ·
      refine Or.inr ⟨rv, v9, hK, hle_u, ?_⟩
      intro p e s m args below meth c A H locs ls F hno hw hl
      obtain ⟨⟨hx, hb, hml, hown, hts⟩, hr, hlocks, hmn⟩ := id F
      refine lv_iload_n hx hb d_H_order_0 rfl (lv_at hl 1 rfl) ?_
      refine lv_if_lt (tgt := 10) hx hb d_H_order_1 (by decide) (fun _ => ?_) (fun c9 => absurd hc1 c9)
      exact w9 p e s m args below meth c A H locs ls F hno hw (lv_sub hl [] rfl)
  · have k := k.2 hc1
    by_cases hc2 : x1 < 10
    · have k := k.1 hc2
      obtain ⟨z_4, h3, k⟩ := k
      obtain ⟨h5, k⟩ := k
      obtain ⟨_, u_5, ⟨r_6, rfl, k⟩, hM4⟩ := c_D_inputAt l Z z_4 x1 u _ k
      have hle_u_5 : x_le u_5 u_5 := x_le.rf u_5
      have hle_u : x_le u u_5 := (hM4.1).tr hle_u_5
      refine Or.inl ⟨some (.int r_6), u_5, ⟨r_6, rfl, k⟩, hle_u, ?_⟩
      intro p e s m args below meth c A H locs ls F hw hl
      obtain ⟨⟨hx, hb, hml, hown, hts⟩, hr, hlocks, hmn⟩ := id F
      refine lv_iload_n hx hb d_H_order_0 rfl (lv_at hl 1 rfl) ?_
      refine lv_if_lt (tgt := 10) hx hb d_H_order_1 (by decide) (fun c9 => absurd c9 hc1) (fun _ => ?_)
      refine lv_iload_n hx hb d_H_order_4 rfl (lv_at hl 1 rfl) ?_
      refine lv_bipush (v := 10) hx hb d_H_order_5 (by decide) ?_
      refine lv_icmp_lt (tgt := 20) hx hb d_H_order_7 (by decide) (fun _ => ?_) (fun c9 => absurd hc2 c9)
      refine lv_aload_n hx hb d_H_order_20 rfl (lv_at hl 0 rfl) ?_
      refine xr_get hx hb hts (xmu uws_H) hown hw h3 rfl (by decide) (hts _ (xm w_232)) (fun _ h9 => h9) d_H_order_21 ?_
      refine lv_iload_n hx hb d_H_order_24 rfl (lv_at hl 1 rfl) ?_
      refine xr_cV (As := [.int x1]) (rest := []) ⟨hx, hb, hml, hown, hts⟩ hw hM4 hle_u_5 (fun _ _ => ⟨callB_of 1 hts (xgood w_754) rfl rfl rfl (hts _ (xm w_3)) (hts _ (xm w_751)) ⟨by decide, by decide, by decide +kernel⟩ ⟨Nat.le_of_ble_eq_true rfl, Nat.le_of_ble_eq_true rfl⟩, (hts _ (xm w_752)), (hts _ (xm w_753))⟩) (qc := (R_D, F_D, 13)) rfl rfl h5 rfl hl.1 rfl (Nat.le_of_ble_eq_true rfl) d_H_order_25 (fun H locs hw => ?_)
      refine W.eq (g2 := F0 m 28 ls [.int r_6]) rfl ?_
      exact xr_iret F rfl hw d_H_order_28
    · have k := k.2 hc2
      rcases t_H_order_J10 l Z u u k with ⟨rv, v9, hK, hle_u, w9⟩ | ⟨rv, v9, hK, hle_u, w9⟩
      ·
        refine Or.inl ⟨rv, v9, hK, hle_u, ?_⟩
        intro p e s m args below meth c A H locs ls F hw hl
        obtain ⟨⟨hx, hb, hml, hown, hts⟩, hr, hlocks, hmn⟩ := id F
        refine lv_iload_n hx hb d_H_order_0 rfl (lv_at hl 1 rfl) ?_
        refine lv_if_lt (tgt := 10) hx hb d_H_order_1 (by decide) (fun c9 => absurd c9 hc1) (fun _ => ?_)
        refine lv_iload_n hx hb d_H_order_4 rfl (lv_at hl 1 rfl) ?_
        refine lv_bipush (v := 10) hx hb d_H_order_5 (by decide) ?_
        refine lv_icmp_lt (tgt := 20) hx hb d_H_order_7 (by decide) (fun c9 => absurd c9 hc2) (fun _ => ?_)
        exact w9 p e s m args below meth c A H locs ls F hw (lv_sub hl [] rfl)
      ·
        refine Or.inr ⟨rv, v9, hK, hle_u, ?_⟩
        intro p e s m args below meth c A H locs ls F hno hw hl
        obtain ⟨⟨hx, hb, hml, hown, hts⟩, hr, hlocks, hmn⟩ := id F
        refine lv_iload_n hx hb d_H_order_0 rfl (lv_at hl 1 rfl) ?_
        refine lv_if_lt (tgt := 10) hx hb d_H_order_1 (by decide) (fun c9 => absurd c9 hc1) (fun _ => ?_)
        refine lv_iload_n hx hb d_H_order_4 rfl (lv_at hl 1 rfl) ?_
        refine lv_bipush (v := 10) hx hb d_H_order_5 (by decide) ?_
        refine lv_icmp_lt (tgt := 20) hx hb d_H_order_7 (by decide) (fun c9 => absurd c9 hc2) (fun _ => ?_)
        exact w9 p e s m args below meth c A H locs ls F hno hw (lv_sub hl [] rfl)
