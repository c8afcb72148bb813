set_option maxRecDepth 100000 in
set_option maxHeartbeats 4000000 in
theorem c_F_init (l : Launch) (Z : XZ) (x0 : Nat) (u : PS) (K : PS → Prop) (k : p_F_init x0 u K) : ∃ (rv : Option Value) (u1 : PS), (kV K) rv u1 ∧ XMet l Z i_F_init [.ref x0] u rv u1 := by
  refine x_met (by decide) rfl (Nat.le_of_ble_eq_true rfl) ?_
  show XN l Z i_F_init u (kV K) u 0 [(0, .ref x0)] []
  unfold p_F_init at k
  obtain ⟨a_12, u_13, h1, k⟩ := k
  obtain ⟨u_14, h2, k⟩ := k
  obtain ⟨a_15, u_16, h3, k⟩ := k
  obtain ⟨u_17, h4, k⟩ := k
  obtain ⟨u_18, h5, k⟩ := k
  obtain ⟨u_19, h6, k⟩ := k
  obtain ⟨a_20, u_21, h7, k⟩ := k
  obtain ⟨u_22, h8, k⟩ := k
  have hle_u_22 : x_le u_22 u_22 := x_le.rf u_22
  have hle_u_21 : x_le u_21 u_22 := (h8.le).tr hle_u_22
  have hle_u_19 : x_le u_19 u_22 := (h7.le).tr hle_u_21
  have hle_u_18 : x_le u_18 u_22 := (h6.le).tr hle_u_19
  have hle_u_17 : x_le u_17 u_22 := (h5.le).tr hle_u_18
  have hle_u_16 : x_le u_16 u_22 := (h4.le).tr hle_u_17
  have hle_u_14 : x_le u_14 u_22 := (h3.le).tr hle_u_16
  have hle_u_13 : x_le u_13 u_22 := (h2.le).tr hle_u_14
  have hle_u : x_le u u_22 := (h1.le).tr hle_u_13
  refine ⟨none, u_22, ⟨rfl, k⟩, hle_u, ?_⟩
  intro p e s m args below meth c A H locs ls F hw hl
  obtain ⟨⟨hx, hb, hml, hown, hts⟩, hr, hlocks, hmn⟩ := id F
  refine lv_aload_n hx hb d_F_init_0 rfl (lv_at hl 0 rfl) ?_
  refine W.objInit hx hb hown (hts _ (xm w_30)) (hts _ (xm w_23)) (hts _ (xm w_24)) rfl (by rw [hml]; exact hl.1) rfl d_F_init_1 (Nat.le_of_ble_eq_true rfl) (Nat.le_of_ble_eq_true rfl) ?_
  refine W.eq (g2 := F0 m 4 ls []) rfl ?_
  refine lv_aload_n hx hb d_F_init_4 rfl (lv_at hl 0 rfl) ?_
  refine lv_bipush (v := 24) hx hb d_F_init_5 (by decide) ?_
  refine lv_bipush (v := 16) hx hb d_F_init_7 (by decide) ?_
  refine xr_multi (ty := .long) hx hb hown (hts _ (xm w_31)) (hw.2.2.2.2.2.1.over wo_J _) (hts _ (xm w_50)) hw (hw.1.2 3 _ rfl).2 (hw.1.2 1 _ rfl).2 (fun k9 h9 => by show k9 * 8 ≤ _; omega) rfl rfl (fun c9 k9 => x_innerJ c9 k9) h1 hle_u_13 d_F_init_9 (fun H hw => ?_)
  refine xr_putF (ty := .array (.array .long)) hx hb hts (xmu uws_F) tyc_F tyc_F_ok nmc_F hown hw h2 rfl (by decide) (hts _ (xm w_34)) (fun _ h9 => h9) rfl hmn rfl (by decide +kernel) rfl rfl d_F_init_13 (fun H locs hw => ?_)
  refine lv_aload_n hx hb d_F_init_16 rfl (lv_at hl 0 rfl) ?_
  refine lv_bipush (v := 24) hx hb d_F_init_17 (by decide) ?_
  refine xr_newai hx hb rfl (hts _ (xm w_51)) hw h3 hle_u_16 d_F_init_19 (fun H hw => ?_)
  refine xr_putF (ty := .array .int) hx hb hts (xmu uws_F) tyc_F tyc_F_ok nmc_F hown hw h4 rfl (by decide) (hts _ (xm w_35)) (fun _ h9 => h9) rfl hmn rfl (by decide +kernel) rfl rfl d_F_init_21 (fun H locs hw => ?_)
  refine lv_aload_n hx hb d_F_init_24 rfl (lv_at hl 0 rfl) ?_
  refine lv_ldc (v := 16777215) hx hb hown (hts _ (xm w_33)) d_F_init_25 ?_
  refine xr_put (ty := .int) hx hb hts (xmu uws_F) tyc_F tyc_F_ok nmc_F hown hw h5 rfl (by decide) (hts _ (xm w_36)) (fun _ h9 => h9) rfl (by decide +kernel) rfl rfl d_F_init_27 (fun H locs hw => ?_)
  refine lv_aload_n hx hb d_F_init_30 rfl (lv_at hl 0 rfl) ?_
  refine lv_iconst (v := 0) hx hb d_F_init_31 (by decide) ?_
  refine xr_put (ty := .int) hx hb hts (xmu uws_F) tyc_F tyc_F_ok nmc_F hown hw h6 rfl (by decide) (hts _ (xm w_37)) (fun _ h9 => h9) rfl (by decide +kernel) rfl rfl d_F_init_32 (fun H locs hw => ?_)
  refine lv_aload_n hx hb d_F_init_35 rfl (lv_at hl 0 rfl) ?_
  refine lv_bipush (v := 16) hx hb d_F_init_36 (by decide) ?_
  refine xr_newal hx hb rfl (hts _ (xm w_50)) hw h7 hle_u_21 d_F_init_38 (fun H hw => ?_)
  refine xr_put (ty := .array .long) hx hb hts (xmu uws_F) tyc_F tyc_F_ok nmc_F hown hw h8 rfl (by decide) (hts _ (xm w_38)) (fun _ h9 => h9) rfl (by decide +kernel) rfl rfl d_F_init_40 (fun H locs hw => ?_)
  exact xr_vret F rfl hw d_F_init_43
set_option maxRecDepth 100000 in
set_option maxHeartbeats 4000000 in
theorem c_F_keptWords (l : Launch) (Z : XZ) (x0 : Nat) (x1 : Int32) (u : PS) (K : Int32 → PS → Prop) (k : p_F_keptWords x0 x1 u K) : ∃ (rv : Option Value) (u1 : PS), (kI K) rv u1 ∧ XMet l Z i_F_keptWords [.ref x0, .int x1] u rv u1 := by
  refine x_met (by decide) rfl (Nat.le_of_ble_eq_true rfl) ?_
  show XN l Z i_F_keptWords u (kI K) u 0 [(0, .ref x0), (1, .int x1)] []
  unfold p_F_keptWords at k
  obtain ⟨z_3, h1, k⟩ := k
  obtain ⟨z_4, h2, k⟩ := k
  have hle_u : x_le u u := x_le.rf u
  refine ⟨some (.int (z_4 >>> ((6 : Int32) &&& 31))), u, ⟨(z_4 >>> ((6 : Int32) &&& 31)), rfl, k⟩, hle_u, ?_⟩
  intro p e s m args below meth c A H locs ls F hw hl
  obtain ⟨⟨hx, hb, hml, hown, hts⟩, hr, hlocks, hmn⟩ := id F
  refine lv_aload_n hx hb d_F_keptWords_0 rfl (lv_at hl 0 rfl) ?_
  refine xr_get hx hb hts (xmu uws_F) hown hw h1 rfl (by decide) (hts _ (xm w_35)) (fun _ h9 => h9) d_F_keptWords_1 ?_
  refine lv_iload_n hx hb d_F_keptWords_4 rfl (lv_at hl 1 rfl) ?_
  refine xr_iald hx hb hw h2 d_F_keptWords_5 ?_
  refine lv_bipush (v := 6) hx hb d_F_keptWords_6 (by decide) ?_
  refine lv_ishr hx hb d_F_keptWords_8 ?_
  exact xr_iret F rfl hw d_F_keptWords_9
set_option maxRecDepth 100000 in
set_option maxHeartbeats 4000000 in
theorem c_F_leftOut (l : Launch) (Z : XZ) (x0 : Int32) (u : PS) (K : Int32 → PS → Prop) (k : p_F_leftOut x0 u K) : ∃ (rv : Option Value) (u1 : PS), (kI K) rv u1 ∧ XMet l Z i_F_leftOut [.int x0] u rv u1 := by
  refine x_met (by decide) rfl (Nat.le_of_ble_eq_true rfl) ?_
  show XN l Z i_F_leftOut u (kI K) u 0 [(0, .int x0)] []
  unfold p_F_leftOut at k
  have hle_u : x_le u u := x_le.rf u
  refine ⟨some (.int ((15 : Int32) &&& (x0 ^^^ (-1 : Int32)))), u, ⟨((15 : Int32) &&& (x0 ^^^ (-1 : Int32))), rfl, k⟩, hle_u, ?_⟩
  intro p e s m args below meth c A H locs ls F hw hl
  obtain ⟨⟨hx, hb, hml, hown, hts⟩, hr, hlocks, hmn⟩ := id F
  refine lv_bipush (v := 15) hx hb d_F_leftOut_0 (by decide) ?_
  refine lv_iload_n hx hb d_F_leftOut_2 rfl (lv_at hl 0 rfl) ?_
  refine lv_iconst (v := (-1)) hx hb d_F_leftOut_3 (by decide) ?_
  refine lv_ixor hx hb d_F_leftOut_4 ?_
  refine lv_iand hx hb d_F_leftOut_5 ?_
  exact xr_iret F rfl hw d_F_leftOut_6
set_option maxRecDepth 100000 in
set_option maxHeartbeats 4000000 in
theorem c_F_word (l : Launch) (Z : XZ) (x0 : Nat) (x1 : Int32) (x2 : Int32) (u : PS) (K : Int64 → PS → Prop) (k : p_F_word x0 x1 x2 u K) : ∃ (rv : Option Value) (u1 : PS), (kJ K) rv u1 ∧ XMet l Z i_F_word [.ref x0, .int x1, .int x2] u rv u1 := by
  refine x_met (by decide) rfl (Nat.le_of_ble_eq_true rfl) ?_
  show XN l Z i_F_word u (kJ K) u 0 [(0, .ref x0), (1, .int x1), (2, .int x2)] []
  unfold p_F_word at k
  obtain ⟨z_6, h1, k⟩ := k
  obtain ⟨z_7, h2, k⟩ := k
  obtain ⟨h4, k⟩ := k
  obtain ⟨_, u_8, ⟨r_9, rfl, k⟩, hM3⟩ := c_F_keptWords l Z x0 x1 u _ k
  obtain ⟨z_10, h5, k⟩ := k
  have hle_u_8 : x_le u_8 u_8 := x_le.rf u_8
  have hle_u : x_le u u_8 := (hM3.1).tr hle_u_8
  refine ⟨some (.long z_10), u_8, ⟨z_10, rfl, k⟩, hle_u, ?_⟩
  intro p e s m args below meth c A H locs ls F hw hl
  obtain ⟨⟨hx, hb, hml, hown, hts⟩, hr, hlocks, hmn⟩ := id F
  refine lv_aload_n hx hb d_F_word_0 rfl (lv_at hl 0 rfl) ?_
  refine xr_get hx hb hts (xmu uws_F) hown hw h1 rfl (by decide) (hts _ (xm w_34)) (fun _ h9 => h9) d_F_word_1 ?_
  refine lv_iload_n hx hb d_F_word_4 rfl (lv_at hl 1 rfl) ?_
  refine xr_aald hx hb hw rfl h2 d_F_word_5 ?_
  refine lv_iload_n hx hb d_F_word_6 rfl (lv_at hl 2 rfl) ?_
  refine lv_aload_n hx hb d_F_word_7 rfl (lv_at hl 0 rfl) ?_
  refine lv_iload_n hx hb d_F_word_8 rfl (lv_at hl 1 rfl) ?_
  refine xr_cV (As := [.int x1]) (rest := [.int x2, .ref z_7]) ⟨hx, hb, hml, hown, hts⟩ hw hM3 hle_u_8 (fun _ _ => ⟨callB_of 1 hts (xgood w_264) rfl rfl rfl (hts _ (xm w_2)) (hts _ (xm w_261)) ⟨by decide, by decide, by decide +kernel⟩ ⟨Nat.le_of_ble_eq_true rfl, Nat.le_of_ble_eq_true rfl⟩, (hts _ (xm w_263)), (hts _ (xm wp_1))⟩) (qc := (R_F, F_F, 5)) rfl rfl h4 rfl hl.1 rfl (Nat.le_of_ble_eq_true rfl) d_F_word_9 (fun H locs hw => ?_)
  refine W.eq (g2 := F0 m 12 ls [.int r_9, .int x2, .ref z_7]) rfl ?_
  refine lv_iand hx hb d_F_word_12 ?_
  refine xr_lald hx hb hw h5 d_F_word_13 ?_
  exact xr_lret F rfl hw d_F_word_14
set_option maxRecDepth 100000 in
set_option maxHeartbeats 4000000 in
theorem c_F_bit (l : Launch) (Z : XZ) (x0 : Nat) (x1 : Int32) (x2 : Int32) (u : PS) (K : Int32 → PS → Prop) (k : p_F_bit x0 x1 x2 u K) : ∃ (rv : Option Value) (u1 : PS), (kI K) rv u1 ∧ XMet l Z i_F_bit [.ref x0, .int x1, .int x2] u rv u1 := by
  refine x_met (by decide) rfl (Nat.le_of_ble_eq_true rfl) ?_
  show XN l Z i_F_bit u (kI K) u 0 [(0, .ref x0), (1, .int x1), (2, .int x2)] []
  unfold p_F_bit at k
  obtain ⟨z_6, h1, k⟩ := k
  obtain ⟨z_7, h2, k⟩ := k
  obtain ⟨h4, k⟩ := k
  obtain ⟨_, u_8, ⟨r_9, rfl, k⟩, hM3⟩ := c_F_keptWords l Z x0 x1 u _ k
  obtain ⟨z_10, h5, k⟩ := k
  have hle_u_8 : x_le u_8 u_8 := x_le.rf u_8
  have hle_u : x_le u u_8 := (hM3.1).tr hle_u_8
  refine ⟨some (.int ((((z_10.toUInt64 >>> (x2.toInt64.toUInt64 &&& Int64.toUInt64 63)).toInt64).toInt32) &&& (1 : Int32))), u_8, ⟨((((z_10.toUInt64 >>> (x2.toInt64.toUInt64 &&& Int64.toUInt64 63)).toInt64).toInt32) &&& (1 : Int32)), rfl, k⟩, hle_u, ?_⟩
  intro p e s m args below meth c A H locs ls F hw hl
  obtain ⟨⟨hx, hb, hml, hown, hts⟩, hr, hlocks, hmn⟩ := id F
  refine lv_aload_n hx hb d_F_bit_0 rfl (lv_at hl 0 rfl) ?_
  refine xr_get hx hb hts (xmu uws_F) hown hw h1 rfl (by decide) (hts _ (xm w_34)) (fun _ h9 => h9) d_F_bit_1 ?_
  refine lv_iload_n hx hb d_F_bit_4 rfl (lv_at hl 1 rfl) ?_
  refine xr_aald hx hb hw rfl h2 d_F_bit_5 ?_
  refine lv_iload_n hx hb d_F_bit_6 rfl (lv_at hl 2 rfl) ?_
  refine lv_bipush (v := 6) hx hb d_F_bit_7 (by decide) ?_
  refine lv_ishr hx hb d_F_bit_9 ?_
  refine lv_aload_n hx hb d_F_bit_10 rfl (lv_at hl 0 rfl) ?_
  refine lv_iload_n hx hb d_F_bit_11 rfl (lv_at hl 1 rfl) ?_
  refine xr_cV (As := [.int x1]) (rest := [.int (x2 >>> ((6 : Int32) &&& 31)), .ref z_7]) ⟨hx, hb, hml, hown, hts⟩ hw hM3 hle_u_8 (fun _ _ => ⟨callB_of 1 hts (xgood w_264) rfl rfl rfl (hts _ (xm w_2)) (hts _ (xm w_261)) ⟨by decide, by decide, by decide +kernel⟩ ⟨Nat.le_of_ble_eq_true rfl, Nat.le_of_ble_eq_true rfl⟩, (hts _ (xm w_263)), (hts _ (xm wp_1))⟩) (qc := (R_F, F_F, 5)) rfl rfl h4 rfl hl.1 rfl (Nat.le_of_ble_eq_true rfl) d_F_bit_12 (fun H locs hw => ?_)
  refine W.eq (g2 := F0 m 15 ls [.int r_9, .int (x2 >>> ((6 : Int32) &&& 31)), .ref z_7]) rfl ?_
  refine lv_iand hx hb d_F_bit_15 ?_
  refine xr_lald hx hb hw h5 d_F_bit_16 ?_
  refine lv_iload_n hx hb d_F_bit_17 rfl (lv_at hl 2 rfl) ?_
  refine lv_lushr hx hb d_F_bit_18 rfl ?_
  refine lv_l2i hx hb d_F_bit_19 rfl ?_
  refine lv_iconst (v := 1) hx hb d_F_bit_20 (by decide) ?_
  refine lv_iand hx hb d_F_bit_21 ?_
  exact xr_iret F rfl hw d_F_bit_22
set_option maxRecDepth 100000 in
set_option maxHeartbeats 4000000 in
theorem c_F_putSpare (l : Launch) (Z : XZ) (x0 : Nat) (x1 : Int32) (x2 : Int32) (u : PS) (K : PS → Prop) (k : p_F_putSpare x0 x1 x2 u K) : ∃ (rv : Option Value) (u1 : PS), (kV K) rv u1 ∧ XMet l Z i_F_putSpare [.ref x0, .int x1, .int x2] u rv u1 := by
  refine x_met (by decide) rfl (Nat.le_of_ble_eq_true rfl) ?_
  show XN l Z i_F_putSpare u (kV K) u 0 [(0, .ref x0), (1, .int x1), (2, .int x2)] []
  unfold p_F_putSpare at k
  obtain ⟨z_11, h1, k⟩ := k
  obtain ⟨z_12, h2, k⟩ := k
  obtain ⟨z_13, h3, k⟩ := k
  obtain ⟨z_14, h4, k⟩ := k
  obtain ⟨u_15, h5, k⟩ := k
  obtain ⟨u_16, h6, k⟩ := k
  obtain ⟨z_17, h7, k⟩ := k
  obtain ⟨u_18, h8, k⟩ := k
  obtain ⟨z_19, h9, k⟩ := k
  obtain ⟨u_20, h10, k⟩ := k
  have hle_u_20 : x_le u_20 u_20 := x_le.rf u_20
  have hle_u_18 : x_le u_18 u_20 := (h10.le).tr hle_u_20
  have hle_u_16 : x_le u_16 u_20 := (h8.le).tr hle_u_18
  have hle_u_15 : x_le u_15 u_20 := (h6.le).tr hle_u_16
  have hle_u : x_le u u_20 := (h5.le).tr hle_u_15
  refine ⟨none, u_20, ⟨rfl, k⟩, hle_u, ?_⟩
  intro p e s m args below meth c A H locs ls F hw hl
  obtain ⟨⟨hx, hb, hml, hown, hts⟩, hr, hlocks, hmn⟩ := id F
  refine lv_aload_n hx hb d_F_putSpare_0 rfl (lv_at hl 0 rfl) ?_
  refine xr_get hx hb hts (xmu uws_F) hown hw h1 rfl (by decide) (hts _ (xm w_34)) (fun _ h9 => h9) d_F_putSpare_1 ?_
  refine lv_iload_n hx hb d_F_putSpare_4 rfl (lv_at hl 1 rfl) ?_
  refine xr_aald hx hb hw rfl h2 d_F_putSpare_5 ?_
  refine lv_astore_n (lv' := [(3, .ref z_12), (0, .ref x0), (1, .int x1), (2, .int x2)]) hx hb d_F_putSpare_6 rfl hl (by decide) rfl (fun ls hl => ?_)
  refine lv_aload_n hx hb d_F_putSpare_7 rfl (lv_at hl 1 rfl) ?_
  refine xr_get hx hb hts (xmu uws_F) hown hw h3 rfl (by decide) (hts _ (xm w_34)) (fun _ h9 => h9) d_F_putSpare_8 ?_
  refine lv_iload_n hx hb d_F_putSpare_11 rfl (lv_at hl 2 rfl) ?_
  refine lv_aload_n hx hb d_F_putSpare_12 rfl (lv_at hl 1 rfl) ?_
  refine xr_get hx hb hts (xmu uws_F) hown hw h4 rfl (by decide) (hts _ (xm w_38)) (fun _ h9 => h9) d_F_putSpare_13 ?_
  refine xr_aast hx hb hw rfl (hw.1.2 1 _ rfl).2 (hw.2.2.2.2.2.1.over wo_J _) h5 d_F_putSpare_16 (fun H locs hw => ?_)
  refine lv_aload_n hx hb d_F_putSpare_17 rfl (lv_at hl 1 rfl) ?_
  refine lv_aload_n hx hb d_F_putSpare_18 rfl (lv_at hl 0 rfl) ?_
  refine xr_put (ty := .array .long) hx hb hts (xmu uws_F) tyc_F tyc_F_ok nmc_F hown hw h6 rfl (by decide) (hts _ (xm w_38)) (fun _ h9 => h9) rfl (by decide +kernel) rfl rfl d_F_putSpare_19 (fun H locs hw => ?_)
  refine lv_aload_n hx hb d_F_putSpare_22 rfl (lv_at hl 1 rfl) ?_
  refine xr_get hx hb hts (xmu uws_F) hown hw h7 rfl (by decide) (hts _ (xm w_35)) (fun _ h9 => h9) d_F_putSpare_23 ?_
  refine lv_iload_n hx hb d_F_putSpare_26 rfl (lv_at hl 2 rfl) ?_
  refine lv_iload_n hx hb d_F_putSpare_27 rfl (lv_at hl 3 rfl) ?_
  refine xr_iast hx hb hw h8 d_F_putSpare_28 (fun H locs hw => ?_)
  refine lv_aload_n hx hb d_F_putSpare_29 rfl (lv_at hl 1 rfl) ?_
  refine lv_dup hx hb d_F_putSpare_30 rfl ?_
  refine xr_get hx hb hts (xmu uws_F) hown hw h9 rfl (by decide) (hts _ (xm w_36)) (fun _ h9 => h9) d_F_putSpare_31 ?_
  refine lv_iconst (v := 1) hx hb d_F_putSpare_34 (by decide) ?_
  refine lv_iload_n hx hb d_F_putSpare_35 rfl (lv_at hl 2 rfl) ?_
  refine lv_ishl hx hb d_F_putSpare_36 ?_
  refine lv_iconst (v := (-1)) hx hb d_F_putSpare_37 (by decide) ?_
  refine lv_ixor hx hb d_F_putSpare_38 ?_
  refine lv_iand hx hb d_F_putSpare_39 ?_
  refine xr_put (ty := .int) hx hb hts (xmu uws_F) tyc_F tyc_F_ok nmc_F hown hw h10 rfl (by decide) (hts _ (xm w_36)) (fun _ h9 => h9) rfl (by decide +kernel) rfl rfl d_F_putSpare_40 (fun H locs hw => ?_)
  exact xr_vret F rfl hw d_F_putSpare_43
set_option maxRecDepth 100000 in
set_option maxHeartbeats 4000000 in
theorem t_F_beSure_J49 (l : Launch) (Z : XZ) (u0 : PS) {K : PS → Prop} (s0 : Nat) (s1 : Int32) (u : PS) (k : (p_F_beSure_J49 K s0 s1 u)) : XN l Z i_F_beSure u0 (kV K) u 49 [] [.int s1, .ref s0] := by
  unfold p_F_beSure_J49 at k
  obtain ⟨u_13, h1, k⟩ := k
  have hle_u_13 : x_le u_13 u_13 := x_le.rf u_13
  have hle_u : x_le u u_13 := (h1.le).tr hle_u_13
  refine ⟨none, u_13, ⟨rfl, k⟩, hle_u, ?_⟩
  intro p e s m args below meth c A H locs ls F hw hl
  obtain ⟨⟨hx, hb, hml, hown, hts⟩, hr, hlocks, hmn⟩ := id F
  refine xr_put (ty := .int) hx hb hts (xmu uws_F) tyc_F tyc_F_ok nmc_F hown hw h1 rfl (by decide) (hts _ (xm w_37)) (fun _ h9 => h9) rfl (by decide +kernel) rfl rfl d_F_beSure_49 (fun H locs hw => ?_)
  exact xr_vret F rfl hw d_F_beSure_52
set_option maxRecDepth 100000 in
set_option maxHeartbeats 4000000 in
theorem c_F_beSure (l : Launch) (Z : XZ) (x0 : Nat) (x1 : Int32) (x2 : Int32) (u : PS) (K : PS → Prop) (k : p_F_beSure x0 x1 x2 u K) : ∃ (rv : Option Value) (u1 : PS), (kV K) rv u1 ∧ XMet l Z i_F_beSure [.ref x0, .int x1, .int x2] u rv u1 := by
  refine x_met (by decide) rfl (Nat.le_of_ble_eq_true rfl) ?_
  show XN l Z i_F_beSure u (kV K) u 0 [(0, .ref x0), (1, .int x1), (2, .int x2)] []
  unfold p_F_beSure at k
  obtain ⟨z_8, h1, k⟩ := k
  obtain ⟨u_9, h2, k⟩ := k
  obtain ⟨z_10, h3, k⟩ := k
  obtain ⟨u_11, h4, k⟩ := k
  by_cases hc5 : (x2 &&& (x2 - (1 : Int32))) = 0
  · have k := k.2 hc5
    obtain ⟨z_12, h6, k⟩ := k
    obtain ⟨rv, v9, hK, hle_u_11, w9⟩ := t_F_beSure_J49 l Z u x0 (z_12 &&& (((1 : Int32) <<< (x1 &&& 31)) ^^^ (-1 : Int32))) u_11 k
    have hle_u_9 : x_le u_9 v9 := (h4.le).tr hle_u_11
    have hle_u : x_le u v9 := (h2.le).tr hle_u_9
    refine ⟨rv, v9, hK, hle_u, ?_⟩
    intro p e s m args below meth c A H locs ls F hw hl
    obtain ⟨⟨hx, hb, hml, hown, hts⟩, hr, hlocks, hmn⟩ := id F
    refine lv_aload_n hx hb d_F_beSure_0 rfl (lv_at hl 0 rfl) ?_
    refine xr_get hx hb hts (xmu uws_F) hown hw h1 rfl (by decide) (hts _ (xm w_35)) (fun _ h9 => h9) d_F_beSure_1 ?_
    refine lv_iload_n hx hb d_F_beSure_4 rfl (lv_at hl 1 rfl) ?_
    refine lv_iload_n hx hb d_F_beSure_5 rfl (lv_at hl 2 rfl) ?_
    refine xr_iast hx hb hw h2 d_F_beSure_6 (fun H locs hw => ?_)
    refine lv_aload_n hx hb d_F_beSure_7 rfl (lv_at hl 0 rfl) ?_
    refine lv_dup hx hb d_F_beSure_8 rfl ?_
    refine xr_get hx hb hts (xmu uws_F) hown hw h3 rfl (by decide) (hts _ (xm w_36)) (fun _ h9 => h9) d_F_beSure_9 ?_
    refine lv_iconst (v := 1) hx hb d_F_beSure_12 (by decide) ?_
    refine lv_iload_n hx hb d_F_beSure_13 rfl (lv_at hl 1 rfl) ?_
    refine lv_ishl hx hb d_F_beSure_14 ?_
    refine lv_ior hx hb d_F_beSure_15 ?_
    refine xr_put (ty := .int) hx hb hts (xmu uws_F) tyc_F tyc_F_ok nmc_F hown hw h4 rfl (by decide) (hts _ (xm w_36)) (fun _ h9 => h9) rfl (by decide +kernel) rfl rfl d_F_beSure_16 (fun H locs hw => ?_)
    refine lv_aload_n hx hb d_F_beSure_19 rfl (lv_at hl 0 rfl) ?_
    refine lv_iload_n hx hb d_F_beSure_20 rfl (lv_at hl 2 rfl) ?_
    refine lv_iload_n hx hb d_F_beSure_21 rfl (lv_at hl 2 rfl) ?_
    refine lv_iconst (v := 1) hx hb d_F_beSure_22 (by decide) ?_
    refine lv_isub hx hb d_F_beSure_23 ?_
    refine lv_iand hx hb d_F_beSure_24 ?_
    refine lv_if_ne (tgt := 41) hx hb d_F_beSure_25 (by decide) (fun c9 => absurd hc5 c9) (fun _ => ?_)
    refine lv_aload_n hx hb d_F_beSure_28 rfl (lv_at hl 0 rfl) ?_
    refine xr_get hx hb hts (xmu uws_F) hown hw h6 rfl (by decide) (hts _ (xm w_37)) (fun _ h9 => h9) d_F_beSure_29 ?_
    refine lv_iconst (v := 1) hx hb d_F_beSure_32 (by decide) ?_
    refine lv_iload_n hx hb d_F_beSure_33 rfl (lv_at hl 1 rfl) ?_
    refine lv_ishl hx hb d_F_beSure_34 ?_
    refine lv_iconst (v := (-1)) hx hb d_F_beSure_35 (by decide) ?_
    refine lv_ixor hx hb d_F_beSure_36 ?_
    refine lv_iand hx hb d_F_beSure_37 ?_
    refine lv_goto (tgt := 49) hx hb d_F_beSure_38 (by decide) ?_
    exact w9 p e s m args below meth c A H locs ls F hw (lv_sub hl [] rfl)
  · have k := k.1 hc5
    obtain ⟨z_14, h7, k⟩ := k
    obtain ⟨rv, v9, hK, hle_u_11, w9⟩ := t_F_beSure_J49 l Z u x0 (z_14 ||| ((1 : Int32) <<< (x1 &&& 31))) u_11 k
    have hle_u_9 : x_le u_9 v9 := (h4.le).tr hle_u_11
    have hle_u : x_le u v9 := (h2.le).tr hle_u_9
    refine ⟨rv, v9, hK, hle_u, ?_⟩
    intro p e s m args below meth c A H locs ls F hw hl
    obtain ⟨⟨hx, hb, hml, hown, hts⟩, hr, hlocks, hmn⟩ := id F
    refine lv_aload_n hx hb d_F_beSure_0 rfl (lv_at hl 0 rfl) ?_
    refine xr_get hx hb hts (xmu uws_F) hown hw h1 rfl (by decide) (hts _ (xm w_35)) (fun _ h9 => h9) d_F_beSure_1 ?_
    refine lv_iload_n hx hb d_F_beSure_4 rfl (lv_at hl 1 rfl) ?_
    refine lv_iload_n hx hb d_F_beSure_5 rfl (lv_at hl 2 rfl) ?_
    refine xr_iast hx hb hw h2 d_F_beSure_6 (fun H locs hw => ?_)
    refine lv_aload_n hx hb d_F_beSure_7 rfl (lv_at hl 0 rfl) ?_
    refine lv_dup hx hb d_F_beSure_8 rfl ?_
    refine xr_get hx hb hts (xmu uws_F) hown hw h3 rfl (by decide) (hts _ (xm w_36)) (fun _ h9 => h9) d_F_beSure_9 ?_
    refine lv_iconst (v := 1) hx hb d_F_beSure_12 (by decide) ?_
    refine lv_iload_n hx hb d_F_beSure_13 rfl (lv_at hl 1 rfl) ?_
    refine lv_ishl hx hb d_F_beSure_14 ?_
    refine lv_ior hx hb d_F_beSure_15 ?_
    refine xr_put (ty := .int) hx hb hts (xmu uws_F) tyc_F tyc_F_ok nmc_F hown hw h4 rfl (by decide) (hts _ (xm w_36)) (fun _ h9 => h9) rfl (by decide +kernel) rfl rfl d_F_beSure_16 (fun H locs hw => ?_)
    refine lv_aload_n hx hb d_F_beSure_19 rfl (lv_at hl 0 rfl) ?_
    refine lv_iload_n hx hb d_F_beSure_20 rfl (lv_at hl 2 rfl) ?_
    refine lv_iload_n hx hb d_F_beSure_21 rfl (lv_at hl 2 rfl) ?_
    refine lv_iconst (v := 1) hx hb d_F_beSure_22 (by decide) ?_
    refine lv_isub hx hb d_F_beSure_23 ?_
    refine lv_iand hx hb d_F_beSure_24 ?_
    refine lv_if_ne (tgt := 41) hx hb d_F_beSure_25 (by decide) (fun _ => ?_) (fun c9 => absurd c9 hc5)
    refine lv_aload_n hx hb d_F_beSure_41 rfl (lv_at hl 0 rfl) ?_
    refine xr_get hx hb hts (xmu uws_F) hown hw h7 rfl (by decide) (hts _ (xm w_37)) (fun _ h9 => h9) d_F_beSure_42 ?_
    refine lv_iconst (v := 1) hx hb d_F_beSure_45 (by decide) ?_
    refine lv_iload_n hx hb d_F_beSure_46 rfl (lv_at hl 1 rfl) ?_
    refine lv_ishl hx hb d_F_beSure_47 ?_
    refine lv_ior hx hb d_F_beSure_48 ?_
    exact w9 p e s m args below meth c A H locs ls F hw (lv_sub hl [] rfl)
set_option maxRecDepth 100000 in
set_option maxHeartbeats 4000000 in
theorem t_F_setAll_J19 (l : Launch) (Z : XZ) (u0 : PS) {K : PS → Prop} (x0 : Nat) (x1 : Int32) (s0 : Nat) (s1 : Int32) (s2 : Int64) (u : PS) (k : (p_F_setAll_J19 K x0 x1 s0 s1 s2 u)) : XN l Z i_F_setAll u0 (kV K) u 19 [(0, .ref x0), (1, .int x1)] [.long s2, .int s1, .ref s0] := by
  unfold p_F_setAll_J19 at k
  obtain ⟨u_7, h1, k⟩ := k
  obtain ⟨h3, k⟩ := k
  obtain ⟨_, u_8, ⟨rfl, k⟩, hM2⟩ := c_F_beSure l Z x0 x1 (0 : Int32) u_7 _ k
  have hle_u_8 : x_le u_8 u_8 := x_le.rf u_8
  have hle_u_7 : x_le u_7 u_8 := (hM2.1).tr hle_u_8
  have hle_u : x_le u u_8 := (h1.le).tr hle_u_7
  refine ⟨none, u_8, ⟨rfl, k⟩, hle_u, ?_⟩
  intro p e s m args below meth c A H locs ls F hw hl
  obtain ⟨⟨hx, hb, hml, hown, hts⟩, hr, hlocks, hmn⟩ := id F
  refine xr_last hx hb hw h1 d_F_setAll_19 (fun H locs hw => ?_)
  refine lv_aload_n hx hb d_F_setAll_20 rfl (lv_at hl 0 rfl) ?_
  refine lv_iload_n hx hb d_F_setAll_21 rfl (lv_at hl 1 rfl) ?_
  refine lv_iconst (v := 0) hx hb d_F_setAll_22 (by decide) ?_
  refine xr_cV (As := [.int x1, .int 0]) (rest := []) ⟨hx, hb, hml, hown, hts⟩ hw hM2 hle_u_8 (fun _ _ => ⟨callB_of 2 hts (xgood w_280) rfl rfl rfl (hts _ (xm w_2)) (hts _ (xm w_277)) ⟨by decide, by decide, by decide +kernel⟩ ⟨Nat.le_of_ble_eq_true rfl, Nat.le_of_ble_eq_true rfl⟩, (hts _ (xm w_279)), (hts _ (xm wp_2))⟩) (qc := (R_F, F_F, 5)) rfl rfl h3 rfl hl.1 rfl (Nat.le_of_ble_eq_true rfl) d_F_setAll_23 (fun H locs hw => ?_)
  refine W.eq (g2 := F0 m 26 ls []) rfl ?_
  exact xr_vret F rfl hw d_F_setAll_26
set_option maxRecDepth 100000 in
set_option maxHeartbeats 4000000 in
theorem c_F_setAll (l : Launch) (Z : XZ) (x0 : Nat) (x1 : Int32) (x2 : Int32) (u : PS) (K : PS → Prop) (k : p_F_setAll x0 x1 x2 u K) : ∃ (rv : Option Value) (u1 : PS), (kV K) rv u1 ∧ XMet l Z i_F_setAll [.ref x0, .int x1, .int x2] u rv u1 := by
  refine x_met (by decide) rfl (Nat.le_of_ble_eq_true rfl) ?_
  show XN l Z i_F_setAll u (kV K) u 0 [(0, .ref x0), (1, .int x1), (2, .int x2)] []
  unfold p_F_setAll at k
  obtain ⟨z_5, h1, k⟩ := k
  obtain ⟨z_6, h2, k⟩ := k
  by_cases hc3 : x2 = 1
  · have k := k.2 hc3
    obtain ⟨rv, v9, hK, hle_u, w9⟩ := t_F_setAll_J19 l Z u x0 x1 z_6 (0 : Int32) (-1 : Int64) u k
    refine ⟨rv, v9, hK, hle_u, ?_⟩
    intro p e s m args below meth c A H locs ls F hw hl
    obtain ⟨⟨hx, hb, hml, hown, hts⟩, hr, hlocks, hmn⟩ := id F
    refine lv_aload_n hx hb d_F_setAll_0 rfl (lv_at hl 0 rfl) ?_
    refine xr_get hx hb hts (xmu uws_F) hown hw h1 rfl (by decide) (hts _ (xm w_34)) (fun _ h9 => h9) d_F_setAll_1 ?_
    refine lv_iload_n hx hb d_F_setAll_4 rfl (lv_at hl 1 rfl) ?_
    refine xr_aald hx hb hw rfl h2 d_F_setAll_5 ?_
    refine lv_iconst (v := 0) hx hb d_F_setAll_6 (by decide) ?_
    refine lv_iload_n hx hb d_F_setAll_7 rfl (lv_at hl 2 rfl) ?_
    refine lv_iconst (v := 1) hx hb d_F_setAll_8 (by decide) ?_
    refine lv_icmp_ne (tgt := 18) hx hb d_F_setAll_9 (by decide) (fun c9 => absurd hc3 c9) (fun _ => ?_)
    refine lv_ldc2 (v := (-1)) hx hb hown (hts _ (xm w_273)) d_F_setAll_12 ?_
    refine lv_goto (tgt := 19) hx hb d_F_setAll_15 (by decide) ?_
    exact w9 p e s m args below meth c A H locs ls F hw (lv_sub hl [0, 1] rfl)
  · have k := k.1 hc3
    obtain ⟨rv, v9, hK, hle_u, w9⟩ := t_F_setAll_J19 l Z u x0 x1 z_6 (0 : Int32) (0 : Int64) u k
    refine ⟨rv, v9, hK, hle_u, ?_⟩
    intro p e s m args below meth c A H locs ls F hw hl
    obtain ⟨⟨hx, hb, hml, hown, hts⟩, hr, hlocks, hmn⟩ := id F
    refine lv_aload_n hx hb d_F_setAll_0 rfl (lv_at hl 0 rfl) ?_
    refine xr_get hx hb hts (xmu uws_F) hown hw h1 rfl (by decide) (hts _ (xm w_34)) (fun _ h9 => h9) d_F_setAll_1 ?_
    refine lv_iload_n hx hb d_F_setAll_4 rfl (lv_at hl 1 rfl) ?_
    refine xr_aald hx hb hw rfl h2 d_F_setAll_5 ?_
    refine lv_iconst (v := 0) hx hb d_F_setAll_6 (by decide) ?_
    refine lv_iload_n hx hb d_F_setAll_7 rfl (lv_at hl 2 rfl) ?_
    refine lv_iconst (v := 1) hx hb d_F_setAll_8 (by decide) ?_
    refine lv_icmp_ne (tgt := 18) hx hb d_F_setAll_9 (by decide) (fun _ => ?_) (fun c9 => absurd c9 hc3)
    refine lv_lconst (v := 0) hx hb d_F_setAll_18 (by decide) ?_
    exact w9 p e s m args below meth c A H locs ls F hw (lv_sub hl [0, 1] rfl)
set_option maxRecDepth 100000 in
set_option maxHeartbeats 4000000 in
theorem t_F_setInput_J39 (l : Launch) (Z : XZ) (u0 : PS) {K : PS → Prop} (x0 : Nat) (x1 : Int32) (x2 : Int32) (u : PS) (k : (p_F_setInput_J39 K x0 x1 x2 u)) : XN l Z i_F_setInput u0 (kV K) u 39 [(0, .ref x0), (1, .int x1), (2, .int x2)] [] := by
  unfold p_F_setInput_J39 at k
  obtain ⟨h2, k⟩ := k
  obtain ⟨_, u_12, ⟨rfl, k⟩, hM1⟩ := c_F_beSure l Z x0 x1 ((1 : Int32) <<< (x2 &&& 31)) u _ k
  have hle_u_12 : x_le u_12 u_12 := x_le.rf u_12
  have hle_u : x_le u u_12 := (hM1.1).tr hle_u_12
  refine ⟨none, u_12, ⟨rfl, k⟩, hle_u, ?_⟩
  intro p e s m args below meth c A H locs ls F hw hl
  obtain ⟨⟨hx, hb, hml, hown, hts⟩, hr, hlocks, hmn⟩ := id F
  refine lv_aload_n hx hb d_F_setInput_39 rfl (lv_at hl 0 rfl) ?_
  refine lv_iload_n hx hb d_F_setInput_40 rfl (lv_at hl 1 rfl) ?_
  refine lv_iconst (v := 1) hx hb d_F_setInput_41 (by decide) ?_
  refine lv_iload_n hx hb d_F_setInput_42 rfl (lv_at hl 2 rfl) ?_
  refine lv_ishl hx hb d_F_setInput_43 ?_
  refine xr_cV (As := [.int x1, .int ((1 : Int32) <<< (x2 &&& 31))]) (rest := []) ⟨hx, hb, hml, hown, hts⟩ hw hM1 hle_u_12 (fun _ _ => ⟨callB_of 2 hts (xgood w_280) rfl rfl rfl (hts _ (xm w_2)) (hts _ (xm w_277)) ⟨by decide, by decide, by decide +kernel⟩ ⟨Nat.le_of_ble_eq_true rfl, Nat.le_of_ble_eq_true rfl⟩, (hts _ (xm w_279)), (hts _ (xm wp_2))⟩) (qc := (R_F, F_F, 5)) rfl rfl h2 rfl hl.1 rfl (Nat.le_of_ble_eq_true rfl) d_F_setInput_44 (fun H locs hw => ?_)
  refine W.eq (g2 := F0 m 47 ls []) rfl ?_
  exact xr_vret F rfl hw d_F_setInput_47
set_option maxRecDepth 100000 in
set_option maxHeartbeats 4000000 in
theorem c_F_setInput (l : Launch) (Z : XZ) (x0 : Nat) (x1 : Int32) (x2 : Int32) (u : PS) (K : PS → Prop) (k : p_F_setInput x0 x1 x2 u K) : ∃ (rv : Option Value) (u1 : PS), (kV K) rv u1 ∧ XMet l Z i_F_setInput [.ref x0, .int x1, .int x2] u rv u1 := by
  refine x_met (by decide) rfl (Nat.le_of_ble_eq_true rfl) ?_
  show XN l Z i_F_setInput u (kV K) u 0 [(0, .ref x0), (1, .int x1), (2, .int x2)] []
  unfold p_F_setInput at k
  obtain ⟨z_8, h1, k⟩ := k
  obtain ⟨z_9, h2, k⟩ := k
  by_cases hc3 : 6 ≤ x2
  · have k := k.1 hc3
    obtain ⟨u_10, h4, k⟩ := k
    obtain ⟨u_11, h5, k⟩ := k
    obtain ⟨rv, v9, hK, hle_u_11, w9⟩ := t_F_setInput_J39 l Z u x0 x1 x2 u_11 k
    have hle_u_10 : x_le u_10 v9 := (h5.le).tr hle_u_11
    have hle_u : x_le u v9 := (h4.le).tr hle_u_10
    refine ⟨rv, v9, hK, hle_u, ?_⟩
    intro p e s m args below meth c A H locs ls F hw hl
    obtain ⟨⟨hx, hb, hml, hown, hts⟩, hr, hlocks, hmn⟩ := id F
    refine lv_aload_n hx hb d_F_setInput_0 rfl (lv_at hl 0 rfl) ?_
    refine xr_get hx hb hts (xmu uws_F) hown hw h1 rfl (by decide) (hts _ (xm w_34)) (fun _ h9 => h9) d_F_setInput_1 ?_
    refine lv_iload_n hx hb d_F_setInput_4 rfl (lv_at hl 1 rfl) ?_
    refine xr_aald hx hb hw rfl h2 d_F_setInput_5 ?_
    refine lv_astore_n (lv' := [(3, .ref z_9), (0, .ref x0), (1, .int x1), (2, .int x2)]) hx hb d_F_setInput_6 rfl hl (by decide) rfl (fun ls hl => ?_)
    refine lv_iload_n hx hb d_F_setInput_7 rfl (lv_at hl 3 rfl) ?_
    refine lv_bipush (v := 6) hx hb d_F_setInput_8 (by decide) ?_
    refine lv_icmp_ge (tgt := 24) hx hb d_F_setInput_10 (by decide) (fun _ => ?_) (fun c9 => absurd hc3 c9)
    refine lv_aload_n hx hb d_F_setInput_24 rfl (lv_at hl 0 rfl) ?_
    refine lv_iconst (v := 0) hx hb d_F_setInput_25 (by decide) ?_
    refine lv_lconst (v := 0) hx hb d_F_setInput_26 (by decide) ?_
    refine xr_last hx hb hw h4 d_F_setInput_27 (fun H locs hw => ?_)
    refine lv_aload_n hx hb d_F_setInput_28 rfl (lv_at hl 0 rfl) ?_
    refine lv_iconst (v := 1) hx hb d_F_setInput_29 (by decide) ?_
    refine lv_iload_n hx hb d_F_setInput_30 rfl (lv_at hl 3 rfl) ?_
    refine lv_bipush (v := 6) hx hb d_F_setInput_31 (by decide) ?_
    refine lv_isub hx hb d_F_setInput_33 ?_
    refine lv_ishl hx hb d_F_setInput_34 ?_
    refine lv_ldc2 (v := (-1)) hx hb hown (hts _ (xm w_273)) d_F_setInput_35 ?_
    refine xr_last hx hb hw h5 d_F_setInput_38 (fun H locs hw => ?_)
    exact w9 p e s m args below meth c A H locs ls F hw (lv_sub hl [1, 2, 3] rfl)
  · have k := k.2 hc3
    obtain ⟨h6, k⟩ := k
    obtain ⟨u_14, h7, k⟩ := k
    obtain ⟨rv, v9, hK, hle_u_14, w9⟩ := t_F_setInput_J39 l Z u x0 x1 x2 u_14 k
    have hle_u : x_le u v9 := (h7.le).tr hle_u_14
    refine ⟨rv, v9, hK, hle_u, ?_⟩
    intro p e s m args below meth c A H locs ls F hw hl
    obtain ⟨⟨hx, hb, hml, hown, hts⟩, hr, hlocks, hmn⟩ := id F
    refine lv_aload_n hx hb d_F_setInput_0 rfl (lv_at hl 0 rfl) ?_
    refine xr_get hx hb hts (xmu uws_F) hown hw h1 rfl (by decide) (hts _ (xm w_34)) (fun _ h9 => h9) d_F_setInput_1 ?_
    refine lv_iload_n hx hb d_F_setInput_4 rfl (lv_at hl 1 rfl) ?_
    refine xr_aald hx hb hw rfl h2 d_F_setInput_5 ?_
    refine lv_astore_n (lv' := [(3, .ref z_9), (0, .ref x0), (1, .int x1), (2, .int x2)]) hx hb d_F_setInput_6 rfl hl (by decide) rfl (fun ls hl => ?_)
    refine lv_iload_n hx hb d_F_setInput_7 rfl (lv_at hl 3 rfl) ?_
    refine lv_bipush (v := 6) hx hb d_F_setInput_8 (by decide) ?_
    refine lv_icmp_ge (tgt := 24) hx hb d_F_setInput_10 (by decide) (fun c9 => absurd c9 hc3) (fun _ => ?_)
    refine lv_aload_n hx hb d_F_setInput_13 rfl (lv_at hl 0 rfl) ?_
    refine lv_iconst (v := 0) hx hb d_F_setInput_14 (by decide) ?_
    refine va_gets hx hb (XG.z_ONES hw.2.2.2.2.2.1) hw.2.2.2.1 hown (hts _ (xm w_271)) (fun _ h9 => h9) d_F_setInput_15 ?_
    refine lv_iload_n hx hb d_F_setInput_18 rfl (lv_at hl 3 rfl) ?_
    refine va_tl hx hb (XG.t_ONES hw.2.2.2.2.2.1) hw.2.2.2.1 h6 rfl d_F_setInput_19 ?_
    refine xr_last hx hb hw h7 d_F_setInput_20 (fun H locs hw => ?_)
    refine lv_goto (tgt := 39) hx hb d_F_setInput_21 (by decide) ?_
    exact w9 p e s m args below meth c A H locs ls F hw (lv_sub hl [1, 2, 3] rfl)
set_option maxRecDepth 100000 in
set_option maxHeartbeats 4000000 in
theorem t_F_join_J203 (l : Launch) (Z : XZ) (u0 : PS) {Kv : Option Value → PS → Prop} {R : Int32 → PS → Prop} {E220 : PS → Prop} (x0 : Nat) (x1 : Int32) (x2 : Int32) (x3 : Int32) (x4 : Int32) (x5 : Nat) (x6 : Nat) (x7 : Nat) (x8 : Int32) (x9 : Int32) (x10 : Int32) (x11 : Int32) (u : PS) (hR : ∀ (y11 : Int32) (v : PS), R y11 v → XN l Z i_F_join u0 Kv v 51 [(0, .ref x0), (1, .int x1), (2, .int x2), (3, .int x3), (4, .int x4), (5, .ref x5), (6, .ref x6), (7, .ref x7), (8, .int x8), (9, .int x9), (10, .int x10), (11, .int y11)] []) (hE220 : ∀ (v : PS), E220 v → XN l Z i_F_join u0 Kv v 220 [(0, .ref x0), (1, .int x1), (3, .int x3), (4, .int x4)] []) (k : (p_F_join_J203 R E220 x0 x1 x2 x3 x4 x5 x6 x7 x8 x9 x10 x11 u)) : XN l Z i_F_join u0 Kv u 203 [(0, .ref x0), (1, .int x1), (2, .int x2), (3, .int x3), (4, .int x4), (5, .ref x5), (6, .ref x6), (7, .ref x7), (8, .int x8), (9, .int x9), (10, .int x10), (11, .int x11)] [] := by
  unfold p_F_join_J203 at k
  obtain ⟨y1, ey1⟩ : ∃ y9 : Int32, y9 = (((x11 ||| x10) + (1 : Int32)) &&& (x10 ^^^ (-1 : Int32))) := ⟨_, rfl⟩
  have k := k y1 ey1
  obtain ⟨rv, v9, hK, hle_u, w9⟩ := hR y1 u k
  refine ⟨rv, v9, hK, hle_u, ?_⟩
  intro p e s m args below meth c A H locs ls F hw hl
  obtain ⟨⟨hx, hb, hml, hown, hts⟩, hr, hlocks, hmn⟩ := id F
  refine lv_iload hx hb d_F_join_203 (lv_at hl 11 rfl) ?_
  refine lv_iload hx hb d_F_join_205 (lv_at hl 10 rfl) ?_
  refine lv_ior hx hb d_F_join_207 ?_
  refine lv_iconst (v := 1) hx hb d_F_join_208 (by decide) ?_
  refine lv_iadd hx hb d_F_join_209 ?_
  refine lv_iload hx hb d_F_join_210 (lv_at hl 10 rfl) ?_
  refine lv_iconst (v := (-1)) hx hb d_F_join_212 (by decide) ?_
  refine lv_ixor hx hb d_F_join_213 ?_
  refine lv_iand hx hb d_F_join_214 ?_
  refine lv_istore (lv' := [(11, .int y1), (0, .ref x0), (1, .int x1), (2, .int x2), (3, .int x3), (4, .int x4), (5, .ref x5), (6, .ref x6), (7, .ref x7), (8, .int x8), (9, .int x9), (10, .int x10)]) hx hb d_F_join_215 hl (by decide) (by subst ey1; rfl) (fun ls hl => ?_)
  refine lv_goto (tgt := 51) hx hb d_F_join_217 (by decide) ?_
  exact w9 p e s m args below meth c A H locs ls F hw (lv_sub hl [1, 2, 3, 4, 5, 6, 7, 8, 9, 10, 11, 0] rfl)
set_option maxRecDepth 100000 in
set_option maxHeartbeats 4000000 in
theorem t_F_join_L51 (l : Launch) (Z : XZ) (u0 : PS) {Kv : Option Value → PS → Prop} {E220 : PS → Prop} (x0 : Nat) (x1 : Int32) (x2 : Int32) (x3 : Int32) (x4 : Int32) (x5 : Nat) (x6 : Nat) (x7 : Nat) (x8 : Int32) (x9 : Int32) (x10 : Int32) (hE220 : ∀ (v : PS), E220 v → XN l Z i_F_join u0 Kv v 220 [(0, .ref x0), (1, .int x1), (3, .int x3), (4, .int x4)] []) : ∀ (n : Nat) (x11 : Int32) (u : PS), p_F_join_L51 x0 x1 x2 x3 x4 x5 x6 x7 x8 x9 x10 E220 n x11 u → XN l Z i_F_join u0 Kv u 51 [(0, .ref x0), (1, .int x1), (2, .int x2), (3, .int x3), (4, .int x4), (5, .ref x5), (6, .ref x6), (7, .ref x7), (8, .int x8), (9, .int x9), (10, .int x10), (11, .int x11)] [] := by
  intro n
  induction n with
  | zero => intro x11 u k; exact False.elim k
  | succ n ih =>
    intro x11 u k
    rw [p_F_join_L51] at k
    by_cases hc1 : 16 ≤ x11
    · have k := k.1 hc1
      obtain ⟨rv, v9, hK, hle_u, w9⟩ := hE220 u k
      refine ⟨rv, v9, hK, hle_u, ?_⟩
      intro p e s m args below meth c A H locs ls F hw hl
      obtain ⟨⟨hx, hb, hml, hown, hts⟩, hr, hlocks, hmn⟩ := id F
      refine lv_iload hx hb d_F_join_51 (lv_at hl 11 rfl) ?_
      refine lv_bipush (v := 16) hx hb d_F_join_53 (by decide) ?_
      refine lv_icmp_ge (tgt := 220) hx hb d_F_join_55 (by decide) (fun _ => ?_) (fun c9 => absurd hc1 c9)
      exact w9 p e s m args below meth c A H locs ls F hw (lv_sub hl [0, 1, 3, 4] rfl)
    · have k := k.2 hc1
      obtain ⟨z_40, h2, k⟩ := k
      obtain ⟨z_41, h3, k⟩ := k
      by_cases hc4 : x2 = 0
      · have k := k.1 hc4
        obtain ⟨u_42, h10, k⟩ := k
        obtain ⟨rv, v9, hK, hle_u_42, w9⟩ := t_F_join_J203 l Z u0 x0 x1 x2 x3 x4 x5 x6 x7 x8 x9 x10 x11 u_42 ih hE220 k
        have hle_u : x_le u v9 := (h10.le).tr hle_u_42
        refine ⟨rv, v9, hK, hle_u, ?_⟩
        intro p e s m args below meth c A H locs ls F hw hl
        obtain ⟨⟨hx, hb, hml, hown, hts⟩, hr, hlocks, hmn⟩ := id F
        refine lv_iload hx hb d_F_join_51 (lv_at hl 11 rfl) ?_
        refine lv_bipush (v := 16) hx hb d_F_join_53 (by decide) ?_
        refine lv_icmp_ge (tgt := 220) hx hb d_F_join_55 (by decide) (fun c9 => absurd c9 hc1) (fun _ => ?_)
        refine lv_aload hx hb d_F_join_58 (lv_at hl 5 rfl) ?_
        refine lv_iload hx hb d_F_join_60 (lv_at hl 11 rfl) ?_
        refine lv_iload hx hb d_F_join_62 (lv_at hl 8 rfl) ?_
        refine lv_iand hx hb d_F_join_64 ?_
        refine xr_lald hx hb hw h2 d_F_join_65 ?_
        refine lv_lstore (lv' := [(12, .long z_40), (0, .ref x0), (1, .int x1), (2, .int x2), (3, .int x3), (4, .int x4), (5, .ref x5), (6, .ref x6), (7, .ref x7), (8, .int x8), (9, .int x9), (10, .int x10), (11, .int x11)]) hx hb d_F_join_66 hl (by decide) rfl (fun ls hl => ?_)
        refine lv_aload hx hb d_F_join_68 (lv_at hl 7 rfl) ?_
        refine lv_iload hx hb d_F_join_70 (lv_at hl 12 rfl) ?_
        refine lv_iload hx hb d_F_join_72 (lv_at hl 10 rfl) ?_
        refine lv_iand hx hb d_F_join_74 ?_
        refine xr_lald hx hb hw h3 d_F_join_75 ?_
        refine lv_lstore (lv' := [(14, .long z_41), (12, .long z_40), (0, .ref x0), (1, .int x1), (2, .int x2), (3, .int x3), (4, .int x4), (5, .ref x5), (6, .ref x6), (7, .ref x7), (8, .int x8), (9, .int x9), (10, .int x10), (11, .int x11)]) hx hb d_F_join_76 hl (by decide) rfl (fun ls hl => ?_)
        refine lv_iload_n hx hb d_F_join_78 rfl (lv_at hl 4 rfl) ?_
        refine lv_tableIn (off := 37) (tgt := 116) hx hb d_F_join_79 (by rw [hc4]; decide) (by rw [hc4]; decide) (by rw [hc4]; rfl) (by decide) ?_
        refine lv_aload hx hb d_F_join_116 (lv_at hl 9 rfl) ?_
        refine lv_iload hx hb d_F_join_118 (lv_at hl 13 rfl) ?_
        refine lv_lload hx hb d_F_join_120 (lv_at hl 1 rfl) ?_
        refine lv_lload hx hb d_F_join_122 (lv_at hl 0 rfl) ?_
        refine lv_land hx hb d_F_join_124 ?_
        refine xr_last hx hb hw h10 d_F_join_125 (fun H locs hw => ?_)
        refine lv_goto (tgt := 203) hx hb d_F_join_126 (by decide) ?_
        exact w9 p e s m args below meth c A H locs ls F hw (lv_sub hl [2, 3, 4, 5, 6, 7, 8, 9, 10, 11, 12, 13] rfl)
      by_cases hc5 : x2 = 1
      · have k := k.2.1 hc5
        obtain ⟨u_43, h11, k⟩ := k
        obtain ⟨rv, v9, hK, hle_u_43, w9⟩ := t_F_join_J203 l Z u0 x0 x1 x2 x3 x4 x5 x6 x7 x8 x9 x10 x11 u_43 ih hE220 k
        have hle_u : x_le u v9 := (h11.le).tr hle_u_43
        refine ⟨rv, v9, hK, hle_u, ?_⟩
        intro p e s m args below meth c A H locs ls F hw hl
        obtain ⟨⟨hx, hb, hml, hown, hts⟩, hr, hlocks, hmn⟩ := id F
        refine lv_iload hx hb d_F_join_51 (lv_at hl 11 rfl) ?_
        refine lv_bipush (v := 16) hx hb d_F_join_53 (by decide) ?_
        refine lv_icmp_ge (tgt := 220) hx hb d_F_join_55 (by decide) (fun c9 => absurd c9 hc1) (fun _ => ?_)
        refine lv_aload hx hb d_F_join_58 (lv_at hl 5 rfl) ?_
        refine lv_iload hx hb d_F_join_60 (lv_at hl 11 rfl) ?_
        refine lv_iload hx hb d_F_join_62 (lv_at hl 8 rfl) ?_
        refine lv_iand hx hb d_F_join_64 ?_
        refine xr_lald hx hb hw h2 d_F_join_65 ?_
        refine lv_lstore (lv' := [(12, .long z_40), (0, .ref x0), (1, .int x1), (2, .int x2), (3, .int x3), (4, .int x4), (5, .ref x5), (6, .ref x6), (7, .ref x7), (8, .int x8), (9, .int x9), (10, .int x10), (11, .int x11)]) hx hb d_F_join_66 hl (by decide) rfl (fun ls hl => ?_)
        refine lv_aload hx hb d_F_join_68 (lv_at hl 7 rfl) ?_
        refine lv_iload hx hb d_F_join_70 (lv_at hl 12 rfl) ?_
        refine lv_iload hx hb d_F_join_72 (lv_at hl 10 rfl) ?_
        refine lv_iand hx hb d_F_join_74 ?_
        refine xr_lald hx hb hw h3 d_F_join_75 ?_
        refine lv_lstore (lv' := [(14, .long z_41), (12, .long z_40), (0, .ref x0), (1, .int x1), (2, .int x2), (3, .int x3), (4, .int x4), (5, .ref x5), (6, .ref x6), (7, .ref x7), (8, .int x8), (9, .int x9), (10, .int x10), (11, .int x11)]) hx hb d_F_join_76 hl (by decide) rfl (fun ls hl => ?_)
        refine lv_iload_n hx hb d_F_join_78 rfl (lv_at hl 4 rfl) ?_
        refine lv_tableIn (off := 50) (tgt := 129) hx hb d_F_join_79 (by rw [hc5]; decide) (by rw [hc5]; decide) (by rw [hc5]; rfl) (by decide) ?_
        refine lv_aload hx hb d_F_join_129 (lv_at hl 9 rfl) ?_
        refine lv_iload hx hb d_F_join_131 (lv_at hl 13 rfl) ?_
        refine lv_lload hx hb d_F_join_133 (lv_at hl 1 rfl) ?_
        refine lv_lload hx hb d_F_join_135 (lv_at hl 0 rfl) ?_
        refine lv_lor hx hb d_F_join_137 ?_
        refine xr_last hx hb hw h11 d_F_join_138 (fun H locs hw => ?_)
        refine lv_goto (tgt := 203) hx hb d_F_join_139 (by decide) ?_
        exact w9 p e s m args below meth c A H locs ls F hw (lv_sub hl [2, 3, 4, 5, 6, 7, 8, 9, 10, 11, 12, 13] rfl)
      by_cases hc6 : x2 = 2
      · have k := k.2.2.1 hc6
        obtain ⟨u_44, h12, k⟩ := k
        obtain ⟨rv, v9, hK, hle_u_44, w9⟩ := t_F_join_J203 l Z u0 x0 x1 x2 x3 x4 x5 x6 x7 x8 x9 x10 x11 u_44 ih hE220 k
        have hle_u : x_le u v9 := (h12.le).tr hle_u_44
        refine ⟨rv, v9, hK, hle_u, ?_⟩
        intro p e s m args below meth c A H locs ls F hw hl
        obtain ⟨⟨hx, hb, hml, hown, hts⟩, hr, hlocks, hmn⟩ := id F
        refine lv_iload hx hb d_F_join_51 (lv_at hl 11 rfl) ?_
        refine lv_bipush (v := 16) hx hb d_F_join_53 (by decide) ?_
        refine lv_icmp_ge (tgt := 220) hx hb d_F_join_55 (by decide) (fun c9 => absurd c9 hc1) (fun _ => ?_)
        refine lv_aload hx hb d_F_join_58 (lv_at hl 5 rfl) ?_
        refine lv_iload hx hb d_F_join_60 (lv_at hl 11 rfl) ?_
        refine lv_iload hx hb d_F_join_62 (lv_at hl 8 rfl) ?_
        refine lv_iand hx hb d_F_join_64 ?_
        refine xr_lald hx hb hw h2 d_F_join_65 ?_
        refine lv_lstore (lv' := [(12, .long z_40), (0, .ref x0), (1, .int x1), (2, .int x2), (3, .int x3), (4, .int x4), (5, .ref x5), (6, .ref x6), (7, .ref x7), (8, .int x8), (9, .int x9), (10, .int x10), (11, .int x11)]) hx hb d_F_join_66 hl (by decide) rfl (fun ls hl => ?_)
        refine lv_aload hx hb d_F_join_68 (lv_at hl 7 rfl) ?_
        refine lv_iload hx hb d_F_join_70 (lv_at hl 12 rfl) ?_
        refine lv_iload hx hb d_F_join_72 (lv_at hl 10 rfl) ?_
        refine lv_iand hx hb d_F_join_74 ?_
        refine xr_lald hx hb hw h3 d_F_join_75 ?_
        refine lv_lstore (lv' := [(14, .long z_41), (12, .long z_40), (0, .ref x0), (1, .int x1), (2, .int x2), (3, .int x3), (4, .int x4), (5, .ref x5), (6, .ref x6), (7, .ref x7), (8, .int x8), (9, .int x9), (10, .int x10), (11, .int x11)]) hx hb d_F_join_76 hl (by decide) rfl (fun ls hl => ?_)
        refine lv_iload_n hx hb d_F_join_78 rfl (lv_at hl 4 rfl) ?_
        refine lv_tableIn (off := 63) (tgt := 142) hx hb d_F_join_79 (by rw [hc6]; decide) (by rw [hc6]; decide) (by rw [hc6]; rfl) (by decide) ?_
        refine lv_aload hx hb d_F_join_142 (lv_at hl 9 rfl) ?_
        refine lv_iload hx hb d_F_join_144 (lv_at hl 13 rfl) ?_
        refine lv_lload hx hb d_F_join_146 (lv_at hl 1 rfl) ?_
        refine lv_lload hx hb d_F_join_148 (lv_at hl 0 rfl) ?_
        refine lv_lxor hx hb d_F_join_150 ?_
        refine xr_last hx hb hw h12 d_F_join_151 (fun H locs hw => ?_)
        refine lv_goto (tgt := 203) hx hb d_F_join_152 (by decide) ?_
        exact w9 p e s m args below meth c A H locs ls F hw (lv_sub hl [2, 3, 4, 5, 6, 7, 8, 9, 10, 11, 12, 13] rfl)
      by_cases hc7 : x2 = 3
      · have k := k.2.2.2.1 hc7
        obtain ⟨u_45, h13, k⟩ := k
        obtain ⟨rv, v9, hK, hle_u_45, w9⟩ := t_F_join_J203 l Z u0 x0 x1 x2 x3 x4 x5 x6 x7 x8 x9 x10 x11 u_45 ih hE220 k
        have hle_u : x_le u v9 := (h13.le).tr hle_u_45
        refine ⟨rv, v9, hK, hle_u, ?_⟩
        intro p e s m args below meth c A H locs ls F hw hl
        obtain ⟨⟨hx, hb, hml, hown, hts⟩, hr, hlocks, hmn⟩ := id F
        refine lv_iload hx hb d_F_join_51 (lv_at hl 11 rfl) ?_
        refine lv_bipush (v := 16) hx hb d_F_join_53 (by decide) ?_
        refine lv_icmp_ge (tgt := 220) hx hb d_F_join_55 (by decide) (fun c9 => absurd c9 hc1) (fun _ => ?_)
        refine lv_aload hx hb d_F_join_58 (lv_at hl 5 rfl) ?_
        refine lv_iload hx hb d_F_join_60 (lv_at hl 11 rfl) ?_
        refine lv_iload hx hb d_F_join_62 (lv_at hl 8 rfl) ?_
        refine lv_iand hx hb d_F_join_64 ?_
        refine xr_lald hx hb hw h2 d_F_join_65 ?_
        refine lv_lstore (lv' := [(12, .long z_40), (0, .ref x0), (1, .int x1), (2, .int x2), (3, .int x3), (4, .int x4), (5, .ref x5), (6, .ref x6), (7, .ref x7), (8, .int x8), (9, .int x9), (10, .int x10), (11, .int x11)]) hx hb d_F_join_66 hl (by decide) rfl (fun ls hl => ?_)
        refine lv_aload hx hb d_F_join_68 (lv_at hl 7 rfl) ?_
        refine lv_iload hx hb d_F_join_70 (lv_at hl 12 rfl) ?_
        refine lv_iload hx hb d_F_join_72 (lv_at hl 10 rfl) ?_
        refine lv_iand hx hb d_F_join_74 ?_
        refine xr_lald hx hb hw h3 d_F_join_75 ?_
        refine lv_lstore (lv' := [(14, .long z_41), (12, .long z_40), (0, .ref x0), (1, .int x1), (2, .int x2), (3, .int x3), (4, .int x4), (5, .ref x5), (6, .ref x6), (7, .ref x7), (8, .int x8), (9, .int x9), (10, .int x10), (11, .int x11)]) hx hb d_F_join_76 hl (by decide) rfl (fun ls hl => ?_)
        refine lv_iload_n hx hb d_F_join_78 rfl (lv_at hl 4 rfl) ?_
        refine lv_tableIn (off := 76) (tgt := 155) hx hb d_F_join_79 (by rw [hc7]; decide) (by rw [hc7]; decide) (by rw [hc7]; rfl) (by decide) ?_
        refine lv_aload hx hb d_F_join_155 (lv_at hl 9 rfl) ?_
        refine lv_iload hx hb d_F_join_157 (lv_at hl 13 rfl) ?_
        refine lv_lload hx hb d_F_join_159 (lv_at hl 1 rfl) ?_
        refine lv_ldc2 (v := (-1)) hx hb hown (hts _ (xm w_273)) d_F_join_161 ?_
        refine lv_lxor hx hb d_F_join_164 ?_
        refine lv_lload hx hb d_F_join_165 (lv_at hl 0 rfl) ?_
        refine lv_lor hx hb d_F_join_167 ?_
        refine xr_last hx hb hw h13 d_F_join_168 (fun H locs hw => ?_)
        refine lv_goto (tgt := 203) hx hb d_F_join_169 (by decide) ?_
        exact w9 p e s m args below meth c A H locs ls F hw (lv_sub hl [2, 3, 4, 5, 6, 7, 8, 9, 10, 11, 12, 13] rfl)
      by_cases hc8 : x2 = 4
      · have k := k.2.2.2.2.1 hc8
        obtain ⟨u_46, h14, k⟩ := k
        obtain ⟨rv, v9, hK, hle_u_46, w9⟩ := t_F_join_J203 l Z u0 x0 x1 x2 x3 x4 x5 x6 x7 x8 x9 x10 x11 u_46 ih hE220 k
        have hle_u : x_le u v9 := (h14.le).tr hle_u_46
        refine ⟨rv, v9, hK, hle_u, ?_⟩
        intro p e s m args below meth c A H locs ls F hw hl
        obtain ⟨⟨hx, hb, hml, hown, hts⟩, hr, hlocks, hmn⟩ := id F
        refine lv_iload hx hb d_F_join_51 (lv_at hl 11 rfl) ?_
        refine lv_bipush (v := 16) hx hb d_F_join_53 (by decide) ?_
        refine lv_icmp_ge (tgt := 220) hx hb d_F_join_55 (by decide) (fun c9 => absurd c9 hc1) (fun _ => ?_)
        refine lv_aload hx hb d_F_join_58 (lv_at hl 5 rfl) ?_
        refine lv_iload hx hb d_F_join_60 (lv_at hl 11 rfl) ?_
        refine lv_iload hx hb d_F_join_62 (lv_at hl 8 rfl) ?_
        refine lv_iand hx hb d_F_join_64 ?_
        refine xr_lald hx hb hw h2 d_F_join_65 ?_
        refine lv_lstore (lv' := [(12, .long z_40), (0, .ref x0), (1, .int x1), (2, .int x2), (3, .int x3), (4, .int x4), (5, .ref x5), (6, .ref x6), (7, .ref x7), (8, .int x8), (9, .int x9), (10, .int x10), (11, .int x11)]) hx hb d_F_join_66 hl (by decide) rfl (fun ls hl => ?_)
        refine lv_aload hx hb d_F_join_68 (lv_at hl 7 rfl) ?_
        refine lv_iload hx hb d_F_join_70 (lv_at hl 12 rfl) ?_
        refine lv_iload hx hb d_F_join_72 (lv_at hl 10 rfl) ?_
        refine lv_iand hx hb d_F_join_74 ?_
        refine xr_lald hx hb hw h3 d_F_join_75 ?_
        refine lv_lstore (lv' := [(14, .long z_41), (12, .long z_40), (0, .ref x0), (1, .int x1), (2, .int x2), (3, .int x3), (4, .int x4), (5, .ref x5), (6, .ref x6), (7, .ref x7), (8, .int x8), (9, .int x9), (10, .int x10), (11, .int x11)]) hx hb d_F_join_76 hl (by decide) rfl (fun ls hl => ?_)
        refine lv_iload_n hx hb d_F_join_78 rfl (lv_at hl 4 rfl) ?_
        refine lv_tableIn (off := 93) (tgt := 172) hx hb d_F_join_79 (by rw [hc8]; decide) (by rw [hc8]; decide) (by rw [hc8]; rfl) (by decide) ?_
        refine lv_aload hx hb d_F_join_172 (lv_at hl 9 rfl) ?_
        refine lv_iload hx hb d_F_join_174 (lv_at hl 13 rfl) ?_
        refine lv_lload hx hb d_F_join_176 (lv_at hl 1 rfl) ?_
        refine lv_lload hx hb d_F_join_178 (lv_at hl 0 rfl) ?_
        refine lv_lxor hx hb d_F_join_180 ?_
        refine lv_ldc2 (v := (-1)) hx hb hown (hts _ (xm w_273)) d_F_join_181 ?_
        refine lv_lxor hx hb d_F_join_184 ?_
        refine xr_last hx hb hw h14 d_F_join_185 (fun H locs hw => ?_)
        refine lv_goto (tgt := 203) hx hb d_F_join_186 (by decide) ?_
        exact w9 p e s m args below meth c A H locs ls F hw (lv_sub hl [2, 3, 4, 5, 6, 7, 8, 9, 10, 11, 12, 13] rfl)
      by_cases hc9 : x2 = 5
      · have k := k.2.2.2.2.2.1 hc9
        obtain ⟨u_47, h15, k⟩ := k
        obtain ⟨rv, v9, hK, hle_u_47, w9⟩ := t_F_join_J203 l Z u0 x0 x1 x2 x3 x4 x5 x6 x7 x8 x9 x10 x11 u_47 ih hE220 k
        have hle_u : x_le u v9 := (h15.le).tr hle_u_47
        refine ⟨rv, v9, hK, hle_u, ?_⟩
        intro p e s m args below meth c A H locs ls F hw hl
        obtain ⟨⟨hx, hb, hml, hown, hts⟩, hr, hlocks, hmn⟩ := id F
        refine lv_iload hx hb d_F_join_51 (lv_at hl 11 rfl) ?_
        refine lv_bipush (v := 16) hx hb d_F_join_53 (by decide) ?_
        refine lv_icmp_ge (tgt := 220) hx hb d_F_join_55 (by decide) (fun c9 => absurd c9 hc1) (fun _ => ?_)
        refine lv_aload hx hb d_F_join_58 (lv_at hl 5 rfl) ?_
        refine lv_iload hx hb d_F_join_60 (lv_at hl 11 rfl) ?_
        refine lv_iload hx hb d_F_join_62 (lv_at hl 8 rfl) ?_
        refine lv_iand hx hb d_F_join_64 ?_
        refine xr_lald hx hb hw h2 d_F_join_65 ?_
        refine lv_lstore (lv' := [(12, .long z_40), (0, .ref x0), (1, .int x1), (2, .int x2), (3, .int x3), (4, .int x4), (5, .ref x5), (6, .ref x6), (7, .ref x7), (8, .int x8), (9, .int x9), (10, .int x10), (11, .int x11)]) hx hb d_F_join_66 hl (by decide) rfl (fun ls hl => ?_)
        refine lv_aload hx hb d_F_join_68 (lv_at hl 7 rfl) ?_
        refine lv_iload hx hb d_F_join_70 (lv_at hl 12 rfl) ?_
        refine lv_iload hx hb d_F_join_72 (lv_at hl 10 rfl) ?_
        refine lv_iand hx hb d_F_join_74 ?_
        refine xr_lald hx hb hw h3 d_F_join_75 ?_
        refine lv_lstore (lv' := [(14, .long z_41), (12, .long z_40), (0, .ref x0), (1, .int x1), (2, .int x2), (3, .int x3), (4, .int x4), (5, .ref x5), (6, .ref x6), (7, .ref x7), (8, .int x8), (9, .int x9), (10, .int x10), (11, .int x11)]) hx hb d_F_join_76 hl (by decide) rfl (fun ls hl => ?_)
        refine lv_iload_n hx hb d_F_join_78 rfl (lv_at hl 4 rfl) ?_
        refine lv_tableIn (off := 110) (tgt := 189) hx hb d_F_join_79 (by rw [hc9]; decide) (by rw [hc9]; decide) (by rw [hc9]; rfl) (by decide) ?_
        refine lv_aload hx hb d_F_join_189 (lv_at hl 9 rfl) ?_
        refine lv_iload hx hb d_F_join_191 (lv_at hl 13 rfl) ?_
        refine lv_lload hx hb d_F_join_193 (lv_at hl 1 rfl) ?_
        refine lv_lload hx hb d_F_join_195 (lv_at hl 0 rfl) ?_
        refine lv_ldc2 (v := (-1)) hx hb hown (hts _ (xm w_273)) d_F_join_197 ?_
        refine lv_lxor hx hb d_F_join_200 ?_
        refine lv_land hx hb d_F_join_201 ?_
        refine xr_last hx hb hw h15 d_F_join_202 (fun H locs hw => ?_)
        exact w9 p e s m args below meth c A H locs ls F hw (lv_sub hl [2, 3, 4, 5, 6, 7, 8, 9, 10, 11, 12, 13] rfl)
      have k := k.2.2.2.2.2.2 hc4 hc5 hc6 hc7 hc8 hc9
      have e16 := lv_neT hc4 (a := 0) (by decide)
      have e17 := lv_neT hc5 (a := 1) (by decide)
      have e18 := lv_neT hc6 (a := 2) (by decide)
      have e19 := lv_neT hc7 (a := 3) (by decide)
      have e20 := lv_neT hc8 (a := 4) (by decide)
      have e21 := lv_neT hc9 (a := 5) (by decide)
      obtain ⟨u_48, h22, k⟩ := k
      obtain ⟨rv, v9, hK, hle_u_48, w9⟩ := t_F_join_J203 l Z u0 x0 x1 x2 x3 x4 x5 x6 x7 x8 x9 x10 x11 u_48 ih hE220 k
      have hle_u : x_le u v9 := (h22.le).tr hle_u_48
      refine ⟨rv, v9, hK, hle_u, ?_⟩
      intro p e s m args below meth c A H locs ls F hw hl
      obtain ⟨⟨hx, hb, hml, hown, hts⟩, hr, hlocks, hmn⟩ := id F
      refine lv_iload hx hb d_F_join_51 (lv_at hl 11 rfl) ?_
      refine lv_bipush (v := 16) hx hb d_F_join_53 (by decide) ?_
      refine lv_icmp_ge (tgt := 220) hx hb d_F_join_55 (by decide) (fun c9 => absurd c9 hc1) (fun _ => ?_)
      refine lv_aload hx hb d_F_join_58 (lv_at hl 5 rfl) ?_
      refine lv_iload hx hb d_F_join_60 (lv_at hl 11 rfl) ?_
      refine lv_iload hx hb d_F_join_62 (lv_at hl 8 rfl) ?_
      refine lv_iand hx hb d_F_join_64 ?_
      refine xr_lald hx hb hw h2 d_F_join_65 ?_
      refine lv_lstore (lv' := [(12, .long z_40), (0, .ref x0), (1, .int x1), (2, .int x2), (3, .int x3), (4, .int x4), (5, .ref x5), (6, .ref x6), (7, .ref x7), (8, .int x8), (9, .int x9), (10, .int x10), (11, .int x11)]) hx hb d_F_join_66 hl (by decide) rfl (fun ls hl => ?_)
      refine lv_aload hx hb d_F_join_68 (lv_at hl 7 rfl) ?_
      refine lv_iload hx hb d_F_join_70 (lv_at hl 12 rfl) ?_
      refine lv_iload hx hb d_F_join_72 (lv_at hl 10 rfl) ?_
      refine lv_iand hx hb d_F_join_74 ?_
      refine xr_lald hx hb hw h3 d_F_join_75 ?_
      refine lv_lstore (lv' := [(14, .long z_41), (12, .long z_40), (0, .ref x0), (1, .int x1), (2, .int x2), (3, .int x3), (4, .int x4), (5, .ref x5), (6, .ref x6), (7, .ref x7), (8, .int x8), (9, .int x9), (10, .int x10), (11, .int x11)]) hx hb d_F_join_76 hl (by decide) rfl (fun ls hl => ?_)
      refine lv_iload_n hx hb d_F_join_78 rfl (lv_at hl 4 rfl) ?_
      refine lv_tableOut (tgt := 189) hx hb d_F_join_79 (by omega) (by decide) ?_
      refine lv_aload hx hb d_F_join_189 (lv_at hl 9 rfl) ?_
      refine lv_iload hx hb d_F_join_191 (lv_at hl 13 rfl) ?_
      refine lv_lload hx hb d_F_join_193 (lv_at hl 1 rfl) ?_
      refine lv_lload hx hb d_F_join_195 (lv_at hl 0 rfl) ?_
      refine lv_ldc2 (v := (-1)) hx hb hown (hts _ (xm w_273)) d_F_join_197 ?_
      refine lv_lxor hx hb d_F_join_200 ?_
      refine lv_land hx hb d_F_join_201 ?_
      refine xr_last hx hb hw h22 d_F_join_202 (fun H locs hw => ?_)
      exact w9 p e s m args below meth c A H locs ls F hw (lv_sub hl [2, 3, 4, 5, 6, 7, 8, 9, 10, 11, 12, 13] rfl)
set_option maxRecDepth 100000 in
set_option maxHeartbeats 4000000 in
theorem t_F_join_J220 (l : Launch) (Z : XZ) (u0 : PS) {K : PS → Prop} (x0 : Nat) (x1 : Int32) (x3 : Int32) (x4 : Int32) (u : PS) (k : (p_F_join_J220 K x0 x1 x3 x4 u)) : XN l Z i_F_join u0 (kV K) u 220 [(0, .ref x0), (1, .int x1), (3, .int x3), (4, .int x4)] [] := by
  unfold p_F_join_J220 at k
  obtain ⟨z_49, h1, k⟩ := k
  obtain ⟨z_50, h2, k⟩ := k
  obtain ⟨z_51, h3, k⟩ := k
  obtain ⟨z_52, h4, k⟩ := k
  obtain ⟨h6, k⟩ := k
  obtain ⟨_, u_53, ⟨rfl, k⟩, hM5⟩ := c_F_putSpare l Z x0 x1 (z_50 ||| z_52) u _ k
  have hle_u_53 : x_le u_53 u_53 := x_le.rf u_53
  have hle_u : x_le u u_53 := (hM5.1).tr hle_u_53
  refine ⟨none, u_53, ⟨rfl, k⟩, hle_u, ?_⟩
  intro p e s m args below meth c A H locs ls F hw hl
  obtain ⟨⟨hx, hb, hml, hown, hts⟩, hr, hlocks, hmn⟩ := id F
  refine lv_aload_n hx hb d_F_join_220 rfl (lv_at hl 0 rfl) ?_
  refine lv_iload_n hx hb d_F_join_221 rfl (lv_at hl 1 rfl) ?_
  refine lv_aload_n hx hb d_F_join_222 rfl (lv_at hl 0 rfl) ?_
  refine xr_get hx hb hts (xmu uws_F) hown hw h1 rfl (by decide) (hts _ (xm w_35)) (fun _ h9 => h9) d_F_join_223 ?_
  refine lv_iload_n hx hb d_F_join_226 rfl (lv_at hl 2 rfl) ?_
  refine xr_iald hx hb hw h2 d_F_join_227 ?_
  refine lv_aload_n hx hb d_F_join_228 rfl (lv_at hl 0 rfl) ?_
  refine xr_get hx hb hts (xmu uws_F) hown hw h3 rfl (by decide) (hts _ (xm w_35)) (fun _ h9 => h9) d_F_join_229 ?_
  refine lv_iload hx hb d_F_join_232 (lv_at hl 3 rfl) ?_
  refine xr_iald hx hb hw h4 d_F_join_234 ?_
  refine lv_ior hx hb d_F_join_235 ?_
  refine xr_cV (As := [.int x1, .int (z_50 ||| z_52)]) (rest := []) ⟨hx, hb, hml, hown, hts⟩ hw hM5 hle_u_53 (fun _ _ => ⟨callB_of 2 hts (xgood w_649) rfl rfl rfl (hts _ (xm w_2)) (hts _ (xm w_646)) ⟨by decide, by decide, by decide +kernel⟩ ⟨Nat.le_of_ble_eq_true rfl, Nat.le_of_ble_eq_true rfl⟩, (hts _ (xm w_648)), (hts _ (xm wp_31))⟩) (qc := (R_F, F_F, 5)) rfl rfl h6 rfl hl.1 rfl (Nat.le_of_ble_eq_true rfl) d_F_join_236 (fun H locs hw => ?_)
  refine W.eq (g2 := F0 m 239 ls []) rfl ?_
  exact xr_vret F rfl hw d_F_join_239
set_option maxRecDepth 100000 in
set_option maxHeartbeats 4000000 in
theorem c_F_join (l : Launch) (Z : XZ) (x0 : Nat) (x1 : Int32) (x2 : Int32) (x3 : Int32) (x4 : Int32) (u : PS) (K : PS → Prop) (k : p_F_join x0 x1 x2 x3 x4 u K) : ∃ (rv : Option Value) (u1 : PS), (kV K) rv u1 ∧ XMet l Z i_F_join [.ref x0, .int x1, .int x2, .int x3, .int x4] u rv u1 := by
  refine x_met (by decide) rfl (Nat.le_of_ble_eq_true rfl) ?_
  show XN l Z i_F_join u (kV K) u 0 [(0, .ref x0), (1, .int x1), (2, .int x2), (3, .int x3), (4, .int x4)] []
  unfold p_F_join at k
  obtain ⟨z_29, h1, k⟩ := k
  obtain ⟨z_30, h2, k⟩ := k
  obtain ⟨z_31, h3, k⟩ := k
  obtain ⟨z_32, h4, k⟩ := k
  obtain ⟨z_33, h5, k⟩ := k
  obtain ⟨h7, k⟩ := k
  obtain ⟨_, u_34, ⟨r_35, rfl, k⟩, hM6⟩ := c_F_keptWords l Z x0 x3 u _ k
  obtain ⟨h9, k⟩ := k
  obtain ⟨_, u_36, ⟨r_37, rfl, k⟩, hM8⟩ := c_F_keptWords l Z x0 x4 u_34 _ k
  obtain ⟨_, u_38, ⟨r_39, rfl, k⟩, hM10⟩ := c_F_leftOut l Z (r_35 ||| r_37) u_36 _ k
  obtain ⟨n11, k⟩ := k
  have hx13 : ∀ (v12 : PS), (p_F_join_J220 K x0 x1 x3 x4 v12) → XN l Z i_F_join u (kV K) v12 220 [(0, .ref x0), (1, .int x1), (3, .int x3), (4, .int x4)] [] := by
    intro v12 k
    obtain ⟨rv, v9, hK, hle_v12, w9⟩ := t_F_join_J220 l Z u x0 x1 x3 x4 v12 k
    refine ⟨rv, v9, hK, hle_v12, ?_⟩
    intro p e s m args below meth c A H locs ls F hw hl
    obtain ⟨⟨hx, hb, hml, hown, hts⟩, hr, hlocks, hmn⟩ := id F
    exact w9 p e s m args below meth c A H locs ls F hw (lv_sub hl [0, 1, 2, 3] rfl)
  obtain ⟨rv, v9, hK, hle_u_38, w9⟩ := t_F_join_L51 l Z u x0 x1 x2 x3 x4 z_30 z_32 z_33 r_35 r_37 r_39 hx13 n11 (0 : Int32) u_38 k
  have hle_u_36 : x_le u_36 v9 := (hM10.1).tr hle_u_38
  have hle_u_34 : x_le u_34 v9 := (hM8.1).tr hle_u_36
  have hle_u : x_le u v9 := (hM6.1).tr hle_u_34
  refine ⟨rv, v9, hK, hle_u, ?_⟩
  intro p e s m args below meth c A H locs ls F hw hl
  obtain ⟨⟨hx, hb, hml, hown, hts⟩, hr, hlocks, hmn⟩ := id F
  refine lv_aload_n hx hb d_F_join_0 rfl (lv_at hl 0 rfl) ?_
  refine xr_get hx hb hts (xmu uws_F) hown hw h1 rfl (by decide) (hts _ (xm w_34)) (fun _ h9 => h9) d_F_join_1 ?_
  refine lv_iload_n hx hb d_F_join_4 rfl (lv_at hl 3 rfl) ?_
  refine xr_aald hx hb hw rfl h2 d_F_join_5 ?_
  refine lv_astore (lv' := [(5, .ref z_30), (0, .ref x0), (1, .int x1), (2, .int x2), (3, .int x3), (4, .int x4)]) hx hb d_F_join_6 hl (by decide) rfl (fun ls hl => ?_)
  refine lv_aload_n hx hb d_F_join_8 rfl (lv_at hl 1 rfl) ?_
  refine xr_get hx hb hts (xmu uws_F) hown hw h3 rfl (by decide) (hts _ (xm w_34)) (fun _ h9 => h9) d_F_join_9 ?_
  refine lv_iload hx hb d_F_join_12 (lv_at hl 5 rfl) ?_
  refine xr_aald hx hb hw rfl h4 d_F_join_14 ?_
  refine lv_astore (lv' := [(6, .ref z_32), (5, .ref z_30), (0, .ref x0), (1, .int x1), (2, .int x2), (3, .int x3), (4, .int x4)]) hx hb d_F_join_15 hl (by decide) rfl (fun ls hl => ?_)
  refine lv_aload_n hx hb d_F_join_17 rfl (lv_at hl 2 rfl) ?_
  refine xr_get hx hb hts (xmu uws_F) hown hw h5 rfl (by decide) (hts _ (xm w_38)) (fun _ h9 => h9) d_F_join_18 ?_
  refine lv_astore (lv' := [(7, .ref z_33), (6, .ref z_32), (5, .ref z_30), (0, .ref x0), (1, .int x1), (2, .int x2), (3, .int x3), (4, .int x4)]) hx hb d_F_join_21 hl (by decide) rfl (fun ls hl => ?_)
  refine lv_aload_n hx hb d_F_join_23 rfl (lv_at hl 3 rfl) ?_
  refine lv_iload_n hx hb d_F_join_24 rfl (lv_at hl 6 rfl) ?_
  refine xr_cV (As := [.int x3]) (rest := []) ⟨hx, hb, hml, hown, hts⟩ hw hM6 hle_u_34 (fun _ _ => ⟨callB_of 1 hts (xgood w_264) rfl rfl rfl (hts _ (xm w_2)) (hts _ (xm w_261)) ⟨by decide, by decide, by decide +kernel⟩ ⟨Nat.le_of_ble_eq_true rfl, Nat.le_of_ble_eq_true rfl⟩, (hts _ (xm w_263)), (hts _ (xm wp_1))⟩) (qc := (R_F, F_F, 5)) rfl rfl h7 rfl hl.1 rfl (Nat.le_of_ble_eq_true rfl) d_F_join_25 (fun H locs hw => ?_)
  refine W.eq (g2 := F0 m 28 ls [.int r_35]) rfl ?_
  refine lv_istore (lv' := [(8, .int r_35), (7, .ref z_33), (6, .ref z_32), (5, .ref z_30), (0, .ref x0), (1, .int x1), (2, .int x2), (3, .int x3), (4, .int x4)]) hx hb d_F_join_28 hl (by decide) rfl (fun ls hl => ?_)
  refine lv_aload_n hx hb d_F_join_30 rfl (lv_at hl 4 rfl) ?_
  refine lv_iload hx hb d_F_join_31 (lv_at hl 8 rfl) ?_
  refine xr_cV (As := [.int x4]) (rest := []) ⟨hx, hb, hml, hown, hts⟩ hw hM8 hle_u_36 (fun _ _ => ⟨callB_of 1 hts (xgood w_264) rfl rfl rfl (hts _ (xm w_2)) (hts _ (xm w_261)) ⟨by decide, by decide, by decide +kernel⟩ ⟨Nat.le_of_ble_eq_true rfl, Nat.le_of_ble_eq_true rfl⟩, (hts _ (xm w_263)), (hts _ (xm wp_1))⟩) (qc := (R_F, F_F, 5)) rfl rfl h9 rfl hl.1 rfl (Nat.le_of_ble_eq_true rfl) d_F_join_33 (fun H locs hw => ?_)
  refine W.eq (g2 := F0 m 36 ls [.int r_37]) rfl ?_
  refine lv_istore (lv' := [(9, .int r_37), (8, .int r_35), (7, .ref z_33), (6, .ref z_32), (5, .ref z_30), (0, .ref x0), (1, .int x1), (2, .int x2), (3, .int x3), (4, .int x4)]) hx hb d_F_join_36 hl (by decide) rfl (fun ls hl => ?_)
  refine lv_iload hx hb d_F_join_38 (lv_at hl 1 rfl) ?_
  refine lv_iload hx hb d_F_join_40 (lv_at hl 0 rfl) ?_
  refine lv_ior hx hb d_F_join_42 ?_
  refine xr_cS (As := [.int (r_35 ||| r_37)]) (rest := []) ⟨hx, hb, hml, hown, hts⟩ hw hM10 hle_u_38 (fun _ _ => ⟨callB_of 1 hts (xgood w_267) rfl rfl rfl (hts _ (xm w_2)) (hts _ (xm w_265)) ⟨by decide, by decide, by decide +kernel⟩ ⟨Nat.le_of_ble_eq_true rfl, Nat.le_of_ble_eq_true rfl⟩, (hts _ (xm w_266))⟩) rfl hl.1 rfl (Nat.le_of_ble_eq_true rfl) d_F_join_43 (fun H locs hw => ?_)
  refine W.eq (g2 := F0 m 46 ls [.int r_39]) rfl ?_
  refine lv_istore (lv' := [(10, .int r_39), (9, .int r_37), (8, .int r_35), (7, .ref z_33), (6, .ref z_32), (5, .ref z_30), (0, .ref x0), (1, .int x1), (2, .int x2), (3, .int x3), (4, .int x4)]) hx hb d_F_join_46 hl (by decide) rfl (fun ls hl => ?_)
  refine lv_iconst (v := 0) hx hb d_F_join_48 (by decide) ?_
  refine lv_istore (lv' := [(11, .int 0), (10, .int r_39), (9, .int r_37), (8, .int r_35), (7, .ref z_33), (6, .ref z_32), (5, .ref z_30), (0, .ref x0), (1, .int x1), (2, .int x2), (3, .int x3), (4, .int x4)]) hx hb d_F_join_49 hl (by decide) rfl (fun ls hl => ?_)
  exact w9 p e s m args below meth c A H locs ls F hw (lv_sub hl [7, 8, 9, 10, 11, 6, 5, 4, 3, 2, 1, 0] rfl)
set_option maxRecDepth 100000 in
set_option maxHeartbeats 4000000 in
theorem t_F_select_L69 (l : Launch) (Z : XZ) (u0 : PS) {Kv : Option Value → PS → Prop} {E135 : PS → Prop} (x0 : Nat) (x1 : Int32) (x2 : Int32) (x3 : Int32) (x4 : Int32) (x5 : Nat) (x6 : Nat) (x7 : Nat) (x8 : Nat) (x9 : Int32) (x10 : Int32) (x11 : Int32) (x12 : Int32) (hE135 : ∀ (v : PS), E135 v → XN l Z i_F_select u0 Kv v 135 [(0, .ref x0), (1, .int x1), (2, .int x2), (3, .int x3), (4, .int x4)] []) : ∀ (n : Nat) (x13 : Int32) (u : PS), p_F_select_L69 x0 x1 x2 x3 x4 x5 x6 x7 x8 x9 x10 x11 x12 E135 n x13 u → XN l Z i_F_select u0 Kv u 69 [(0, .ref x0), (1, .int x1), (2, .int x2), (3, .int x3), (4, .int x4), (5, .ref x5), (6, .ref x6), (7, .ref x7), (8, .ref x8), (9, .int x9), (10, .int x10), (11, .int x11), (12, .int x12), (13, .int x13)] [] := by
  intro n
  induction n with
  | zero => intro x13 u k; exact False.elim k
  | succ n ih =>
    intro x13 u k
    rw [p_F_select_L69] at k
    by_cases hc1 : 16 ≤ x13
    · have k := k.1 hc1
      obtain ⟨rv, v9, hK, hle_u, w9⟩ := hE135 u k
      refine ⟨rv, v9, hK, hle_u, ?_⟩
      intro p e s m args below meth c A H locs ls F hw hl
      obtain ⟨⟨hx, hb, hml, hown, hts⟩, hr, hlocks, hmn⟩ := id F
      refine lv_iload hx hb d_F_select_69 (lv_at hl 13 rfl) ?_
      refine lv_bipush (v := 16) hx hb d_F_select_71 (by decide) ?_
      refine lv_icmp_ge (tgt := 135) hx hb d_F_select_73 (by decide) (fun _ => ?_) (fun c9 => absurd hc1 c9)
      exact w9 p e s m args below meth c A H locs ls F hw (lv_sub hl [0, 1, 2, 3, 4] rfl)
    · have k := k.2 hc1
      obtain ⟨z_45, h2, k⟩ := k
      obtain ⟨z_46, h3, k⟩ := k
      obtain ⟨z_47, h4, k⟩ := k
      obtain ⟨u_48, h5, k⟩ := k
      obtain ⟨y6, ey6⟩ : ∃ y9 : Int32, y9 = (((x13 ||| x12) + (1 : Int32)) &&& (x12 ^^^ (-1 : Int32))) := ⟨_, rfl⟩
      have k := k y6 ey6
      obtain ⟨rv, v9, hK, hle_u_48, w9⟩ := ih y6 u_48 k
      have hle_u : x_le u v9 := (h5.le).tr hle_u_48
      refine ⟨rv, v9, hK, hle_u, ?_⟩
      intro p e s m args below meth c A H locs ls F hw hl
      obtain ⟨⟨hx, hb, hml, hown, hts⟩, hr, hlocks, hmn⟩ := id F
      refine lv_iload hx hb d_F_select_69 (lv_at hl 13 rfl) ?_
      refine lv_bipush (v := 16) hx hb d_F_select_71 (by decide) ?_
      refine lv_icmp_ge (tgt := 135) hx hb d_F_select_73 (by decide) (fun c9 => absurd c9 hc1) (fun _ => ?_)
      refine lv_aload hx hb d_F_select_76 (lv_at hl 5 rfl) ?_
      refine lv_iload hx hb d_F_select_78 (lv_at hl 13 rfl) ?_
      refine lv_iload hx hb d_F_select_80 (lv_at hl 9 rfl) ?_
      refine lv_iand hx hb d_F_select_82 ?_
      refine xr_lald hx hb hw h2 d_F_select_83 ?_
      refine lv_lstore (lv' := [(14, .long z_45), (0, .ref x0), (1, .int x1), (2, .int x2), (3, .int x3), (4, .int x4), (5, .ref x5), (6, .ref x6), (7, .ref x7), (8, .ref x8), (9, .int x9), (10, .int x10), (11, .int x11), (12, .int x12), (13, .int x13)]) hx hb d_F_select_84 hl (by decide) rfl (fun ls hl => ?_)
      refine lv_aload hx hb d_F_select_86 (lv_at hl 9 rfl) ?_
      refine lv_iload hx hb d_F_select_88 (lv_at hl 14 rfl) ?_
      refine lv_lload hx hb d_F_select_90 (lv_at hl 0 rfl) ?_
      refine lv_aload hx hb d_F_select_92 (lv_at hl 7 rfl) ?_
      refine lv_iload hx hb d_F_select_94 (lv_at hl 14 rfl) ?_
      refine lv_iload hx hb d_F_select_96 (lv_at hl 11 rfl) ?_
      refine lv_iand hx hb d_F_select_98 ?_
      refine xr_lald hx hb hw h3 d_F_select_99 ?_
      refine lv_land hx hb d_F_select_100 ?_
      refine lv_lload hx hb d_F_select_101 (lv_at hl 0 rfl) ?_
      refine lv_ldc2 (v := (-1)) hx hb hown (hts _ (xm w_273)) d_F_select_103 ?_
      refine lv_lxor hx hb d_F_select_106 ?_
      refine lv_aload hx hb d_F_select_107 (lv_at hl 8 rfl) ?_
      refine lv_iload hx hb d_F_select_109 (lv_at hl 14 rfl) ?_
      refine lv_iload hx hb d_F_select_111 (lv_at hl 12 rfl) ?_
      refine lv_iand hx hb d_F_select_113 ?_
      refine xr_lald hx hb hw h4 d_F_select_114 ?_
      refine lv_land hx hb d_F_select_115 ?_
      refine lv_lor hx hb d_F_select_116 ?_
      refine xr_last hx hb hw h5 d_F_select_117 (fun H locs hw => ?_)
      refine lv_iload hx hb d_F_select_118 (lv_at hl 14 rfl) ?_
      refine lv_iload hx hb d_F_select_120 (lv_at hl 13 rfl) ?_
      refine lv_ior hx hb d_F_select_122 ?_
      refine lv_iconst (v := 1) hx hb d_F_select_123 (by decide) ?_
      refine lv_iadd hx hb d_F_select_124 ?_
      refine lv_iload hx hb d_F_select_125 (lv_at hl 13 rfl) ?_
      refine lv_iconst (v := (-1)) hx hb d_F_select_127 (by decide) ?_
      refine lv_ixor hx hb d_F_select_128 ?_
      refine lv_iand hx hb d_F_select_129 ?_
      refine lv_istore (lv' := [(13, .int y6), (14, .long z_45), (0, .ref x0), (1, .int x1), (2, .int x2), (3, .int x3), (4, .int x4), (5, .ref x5), (6, .ref x6), (7, .ref x7), (8, .ref x8), (9, .int x9), (10, .int x10), (11, .int x11), (12, .int x12)]) hx hb d_F_select_130 hl (by decide) (by subst ey6; rfl) (fun ls hl => ?_)
      refine lv_goto (tgt := 69) hx hb d_F_select_132 (by decide) ?_
      exact w9 p e s m args below meth c A H locs ls F hw (lv_sub hl [2, 3, 4, 5, 6, 7, 8, 9, 10, 11, 12, 13, 14, 0] rfl)
set_option maxRecDepth 100000 in
set_option maxHeartbeats 4000000 in
theorem t_F_select_J135 (l : Launch) (Z : XZ) (u0 : PS) {K : PS → Prop} (x0 : Nat) (x1 : Int32) (x2 : Int32) (x3 : Int32) (x4 : Int32) (u : PS) (k : (p_F_select_J135 K x0 x1 x2 x3 x4 u)) : XN l Z i_F_select u0 (kV K) u 135 [(0, .ref x0), (1, .int x1), (2, .int x2), (3, .int x3), (4, .int x4)] [] := by
  unfold p_F_select_J135 at k
  obtain ⟨z_49, h1, k⟩ := k
  obtain ⟨z_50, h2, k⟩ := k
  obtain ⟨z_51, h3, k⟩ := k
  obtain ⟨z_52, h4, k⟩ := k
  obtain ⟨z_53, h5, k⟩ := k
  obtain ⟨z_54, h6, k⟩ := k
  obtain ⟨h8, k⟩ := k
  obtain ⟨_, u_55, ⟨rfl, k⟩, hM7⟩ := c_F_putSpare l Z x0 x1 ((z_50 ||| z_52) ||| z_54) u _ k
  have hle_u_55 : x_le u_55 u_55 := x_le.rf u_55
  have hle_u : x_le u u_55 := (hM7.1).tr hle_u_55
  refine ⟨none, u_55, ⟨rfl, k⟩, hle_u, ?_⟩
  intro p e s m args below meth c A H locs ls F hw hl
  obtain ⟨⟨hx, hb, hml, hown, hts⟩, hr, hlocks, hmn⟩ := id F
  refine lv_aload_n hx hb d_F_select_135 rfl (lv_at hl 0 rfl) ?_
  refine lv_iload_n hx hb d_F_select_136 rfl (lv_at hl 1 rfl) ?_
  refine lv_aload_n hx hb d_F_select_137 rfl (lv_at hl 0 rfl) ?_
  refine xr_get hx hb hts (xmu uws_F) hown hw h1 rfl (by decide) (hts _ (xm w_35)) (fun _ h9 => h9) d_F_select_138 ?_
  refine lv_iload_n hx hb d_F_select_141 rfl (lv_at hl 2 rfl) ?_
  refine xr_iald hx hb hw h2 d_F_select_142 ?_
  refine lv_aload_n hx hb d_F_select_143 rfl (lv_at hl 0 rfl) ?_
  refine xr_get hx hb hts (xmu uws_F) hown hw h3 rfl (by decide) (hts _ (xm w_35)) (fun _ h9 => h9) d_F_select_144 ?_
  refine lv_iload_n hx hb d_F_select_147 rfl (lv_at hl 3 rfl) ?_
  refine xr_iald hx hb hw h4 d_F_select_148 ?_
  refine lv_ior hx hb d_F_select_149 ?_
  refine lv_aload_n hx hb d_F_select_150 rfl (lv_at hl 0 rfl) ?_
  refine xr_get hx hb hts (xmu uws_F) hown hw h5 rfl (by decide) (hts _ (xm w_35)) (fun _ h9 => h9) d_F_select_151 ?_
  refine lv_iload hx hb d_F_select_154 (lv_at hl 4 rfl) ?_
  refine xr_iald hx hb hw h6 d_F_select_156 ?_
  refine lv_ior hx hb d_F_select_157 ?_
  refine xr_cV (As := [.int x1, .int ((z_50 ||| z_52) ||| z_54)]) (rest := []) ⟨hx, hb, hml, hown, hts⟩ hw hM7 hle_u_55 (fun _ _ => ⟨callB_of 2 hts (xgood w_649) rfl rfl rfl (hts _ (xm w_2)) (hts _ (xm w_646)) ⟨by decide, by decide, by decide +kernel⟩ ⟨Nat.le_of_ble_eq_true rfl, Nat.le_of_ble_eq_true rfl⟩, (hts _ (xm w_648)), (hts _ (xm wp_31))⟩) (qc := (R_F, F_F, 5)) rfl rfl h8 rfl hl.1 rfl (Nat.le_of_ble_eq_true rfl) d_F_select_158 (fun H locs hw => ?_)
  refine W.eq (g2 := F0 m 161 ls []) rfl ?_
  exact xr_vret F rfl hw d_F_select_161
set_option maxRecDepth 100000 in
set_option maxHeartbeats 4000000 in
theorem c_F_select (l : Launch) (Z : XZ) (x0 : Nat) (x1 : Int32) (x2 : Int32) (x3 : Int32) (x4 : Int32) (u : PS) (K : PS → Prop) (k : p_F_select x0 x1 x2 x3 x4 u K) : ∃ (rv : Option Value) (u1 : PS), (kV K) rv u1 ∧ XMet l Z i_F_select [.ref x0, .int x1, .int x2, .int x3, .int x4] u rv u1 := by
  refine x_met (by decide) rfl (Nat.le_of_ble_eq_true rfl) ?_
  show XN l Z i_F_select u (kV K) u 0 [(0, .ref x0), (1, .int x1), (2, .int x2), (3, .int x3), (4, .int x4)] []
  unfold p_F_select at k
  obtain ⟨z_30, h1, k⟩ := k
  obtain ⟨z_31, h2, k⟩ := k
  obtain ⟨z_32, h3, k⟩ := k
  obtain ⟨z_33, h4, k⟩ := k
  obtain ⟨z_34, h5, k⟩ := k
  obtain ⟨z_35, h6, k⟩ := k
  obtain ⟨z_36, h7, k⟩ := k
  obtain ⟨h9, k⟩ := k
  obtain ⟨_, u_37, ⟨r_38, rfl, k⟩, hM8⟩ := c_F_keptWords l Z x0 x2 u _ k
  obtain ⟨h11, k⟩ := k
  obtain ⟨_, u_39, ⟨r_40, rfl, k⟩, hM10⟩ := c_F_keptWords l Z x0 x3 u_37 _ k
  obtain ⟨h13, k⟩ := k
  obtain ⟨_, u_41, ⟨r_42, rfl, k⟩, hM12⟩ := c_F_keptWords l Z x0 x4 u_39 _ k
  obtain ⟨_, u_43, ⟨r_44, rfl, k⟩, hM14⟩ := c_F_leftOut l Z ((r_38 ||| r_40) ||| r_42) u_41 _ k
  obtain ⟨n15, k⟩ := k
  have hx17 : ∀ (v16 : PS), (p_F_select_J135 K x0 x1 x2 x3 x4 v16) → XN l Z i_F_select u (kV K) v16 135 [(0, .ref x0), (1, .int x1), (2, .int x2), (3, .int x3), (4, .int x4)] [] := by
    intro v16 k
    obtain ⟨rv, v9, hK, hle_v16, w9⟩ := t_F_select_J135 l Z u x0 x1 x2 x3 x4 v16 k
    refine ⟨rv, v9, hK, hle_v16, ?_⟩
    intro p e s m args below meth c A H locs ls F hw hl
    obtain ⟨⟨hx, hb, hml, hown, hts⟩, hr, hlocks, hmn⟩ := id F
    exact w9 p e s m args below meth c A H locs ls F hw (lv_sub hl [0, 1, 2, 3, 4] rfl)
  obtain ⟨rv, v9, hK, hle_u_43, w9⟩ := t_F_select_L69 l Z u x0 x1 x2 x3 x4 z_31 z_33 z_35 z_36 r_38 r_40 r_42 r_44 hx17 n15 (0 : Int32) u_43 k
  have hle_u_41 : x_le u_41 v9 := (hM14.1).tr hle_u_43
  have hle_u_39 : x_le u_39 v9 := (hM12.1).tr hle_u_41
  have hle_u_37 : x_le u_37 v9 := (hM10.1).tr hle_u_39
  have hle_u : x_le u v9 := (hM8.1).tr hle_u_37
  refine ⟨rv, v9, hK, hle_u, ?_⟩
  intro p e s m args below meth c A H locs ls F hw hl
  obtain ⟨⟨hx, hb, hml, hown, hts⟩, hr, hlocks, hmn⟩ := id F
  refine lv_aload_n hx hb d_F_select_0 rfl (lv_at hl 0 rfl) ?_
  refine xr_get hx hb hts (xmu uws_F) hown hw h1 rfl (by decide) (hts _ (xm w_34)) (fun _ h9 => h9) d_F_select_1 ?_
  refine lv_iload_n hx hb d_F_select_4 rfl (lv_at hl 2 rfl) ?_
  refine xr_aald hx hb hw rfl h2 d_F_select_5 ?_
  refine lv_astore (lv' := [(5, .ref z_31), (0, .ref x0), (1, .int x1), (2, .int x2), (3, .int x3), (4, .int x4)]) hx hb d_F_select_6 hl (by decide) rfl (fun ls hl => ?_)
  refine lv_aload_n hx hb d_F_select_8 rfl (lv_at hl 1 rfl) ?_
  refine xr_get hx hb hts (xmu uws_F) hown hw h3 rfl (by decide) (hts _ (xm w_34)) (fun _ h9 => h9) d_F_select_9 ?_
  refine lv_iload_n hx hb d_F_select_12 rfl (lv_at hl 4 rfl) ?_
  refine xr_aald hx hb hw rfl h4 d_F_select_13 ?_
  refine lv_astore (lv' := [(6, .ref z_33), (5, .ref z_31), (0, .ref x0), (1, .int x1), (2, .int x2), (3, .int x3), (4, .int x4)]) hx hb d_F_select_14 hl (by decide) rfl (fun ls hl => ?_)
  refine lv_aload_n hx hb d_F_select_16 rfl (lv_at hl 2 rfl) ?_
  refine xr_get hx hb hts (xmu uws_F) hown hw h5 rfl (by decide) (hts _ (xm w_34)) (fun _ h9 => h9) d_F_select_17 ?_
  refine lv_iload hx hb d_F_select_20 (lv_at hl 6 rfl) ?_
  refine xr_aald hx hb hw rfl h6 d_F_select_22 ?_
  refine lv_astore (lv' := [(7, .ref z_35), (6, .ref z_33), (5, .ref z_31), (0, .ref x0), (1, .int x1), (2, .int x2), (3, .int x3), (4, .int x4)]) hx hb d_F_select_23 hl (by decide) rfl (fun ls hl => ?_)
  refine lv_aload_n hx hb d_F_select_25 rfl (lv_at hl 3 rfl) ?_
  refine xr_get hx hb hts (xmu uws_F) hown hw h7 rfl (by decide) (hts _ (xm w_38)) (fun _ h9 => h9) d_F_select_26 ?_
  refine lv_astore (lv' := [(8, .ref z_36), (7, .ref z_35), (6, .ref z_33), (5, .ref z_31), (0, .ref x0), (1, .int x1), (2, .int x2), (3, .int x3), (4, .int x4)]) hx hb d_F_select_29 hl (by decide) rfl (fun ls hl => ?_)
  refine lv_aload_n hx hb d_F_select_31 rfl (lv_at hl 4 rfl) ?_
  refine lv_iload_n hx hb d_F_select_32 rfl (lv_at hl 6 rfl) ?_
  refine xr_cV (As := [.int x2]) (rest := []) ⟨hx, hb, hml, hown, hts⟩ hw hM8 hle_u_37 (fun _ _ => ⟨callB_of 1 hts (xgood w_264) rfl rfl rfl (hts _ (xm w_2)) (hts _ (xm w_261)) ⟨by decide, by decide, by decide +kernel⟩ ⟨Nat.le_of_ble_eq_true rfl, Nat.le_of_ble_eq_true rfl⟩, (hts _ (xm w_263)), (hts _ (xm wp_1))⟩) (qc := (R_F, F_F, 5)) rfl rfl h9 rfl hl.1 rfl (Nat.le_of_ble_eq_true rfl) d_F_select_33 (fun H locs hw => ?_)
  refine W.eq (g2 := F0 m 36 ls [.int r_38]) rfl ?_
  refine lv_istore (lv' := [(9, .int r_38), (8, .ref z_36), (7, .ref z_35), (6, .ref z_33), (5, .ref z_31), (0, .ref x0), (1, .int x1), (2, .int x2), (3, .int x3), (4, .int x4)]) hx hb d_F_select_36 hl (by decide) rfl (fun ls hl => ?_)
  refine lv_aload_n hx hb d_F_select_38 rfl (lv_at hl 5 rfl) ?_
  refine lv_iload_n hx hb d_F_select_39 rfl (lv_at hl 8 rfl) ?_
  refine xr_cV (As := [.int x3]) (rest := []) ⟨hx, hb, hml, hown, hts⟩ hw hM10 hle_u_39 (fun _ _ => ⟨callB_of 1 hts (xgood w_264) rfl rfl rfl (hts _ (xm w_2)) (hts _ (xm w_261)) ⟨by decide, by decide, by decide +kernel⟩ ⟨Nat.le_of_ble_eq_true rfl, Nat.le_of_ble_eq_true rfl⟩, (hts _ (xm w_263)), (hts _ (xm wp_1))⟩) (qc := (R_F, F_F, 5)) rfl rfl h11 rfl hl.1 rfl (Nat.le_of_ble_eq_true rfl) d_F_select_40 (fun H locs hw => ?_)
  refine W.eq (g2 := F0 m 43 ls [.int r_40]) rfl ?_
  refine lv_istore (lv' := [(10, .int r_40), (9, .int r_38), (8, .ref z_36), (7, .ref z_35), (6, .ref z_33), (5, .ref z_31), (0, .ref x0), (1, .int x1), (2, .int x2), (3, .int x3), (4, .int x4)]) hx hb d_F_select_43 hl (by decide) rfl (fun ls hl => ?_)
  refine lv_aload_n hx hb d_F_select_45 rfl (lv_at hl 6 rfl) ?_
  refine lv_iload hx hb d_F_select_46 (lv_at hl 10 rfl) ?_
  refine xr_cV (As := [.int x4]) (rest := []) ⟨hx, hb, hml, hown, hts⟩ hw hM12 hle_u_41 (fun _ _ => ⟨callB_of 1 hts (xgood w_264) rfl rfl rfl (hts _ (xm w_2)) (hts _ (xm w_261)) ⟨by decide, by decide, by decide +kernel⟩ ⟨Nat.le_of_ble_eq_true rfl, Nat.le_of_ble_eq_true rfl⟩, (hts _ (xm w_263)), (hts _ (xm wp_1))⟩) (qc := (R_F, F_F, 5)) rfl rfl h13 rfl hl.1 rfl (Nat.le_of_ble_eq_true rfl) d_F_select_48 (fun H locs hw => ?_)
  refine W.eq (g2 := F0 m 51 ls [.int r_42]) rfl ?_
  refine lv_istore (lv' := [(11, .int r_42), (10, .int r_40), (9, .int r_38), (8, .ref z_36), (7, .ref z_35), (6, .ref z_33), (5, .ref z_31), (0, .ref x0), (1, .int x1), (2, .int x2), (3, .int x3), (4, .int x4)]) hx hb d_F_select_51 hl (by decide) rfl (fun ls hl => ?_)
  refine lv_iload hx hb d_F_select_53 (lv_at hl 2 rfl) ?_
  refine lv_iload hx hb d_F_select_55 (lv_at hl 1 rfl) ?_
  refine lv_ior hx hb d_F_select_57 ?_
  refine lv_iload hx hb d_F_select_58 (lv_at hl 0 rfl) ?_
  refine lv_ior hx hb d_F_select_60 ?_
  refine xr_cS (As := [.int ((r_38 ||| r_40) ||| r_42)]) (rest := []) ⟨hx, hb, hml, hown, hts⟩ hw hM14 hle_u_43 (fun _ _ => ⟨callB_of 1 hts (xgood w_267) rfl rfl rfl (hts _ (xm w_2)) (hts _ (xm w_265)) ⟨by decide, by decide, by decide +kernel⟩ ⟨Nat.le_of_ble_eq_true rfl, Nat.le_of_ble_eq_true rfl⟩, (hts _ (xm w_266))⟩) rfl hl.1 rfl (Nat.le_of_ble_eq_true rfl) d_F_select_61 (fun H locs hw => ?_)
  refine W.eq (g2 := F0 m 64 ls [.int r_44]) rfl ?_
  refine lv_istore (lv' := [(12, .int r_44), (11, .int r_42), (10, .int r_40), (9, .int r_38), (8, .ref z_36), (7, .ref z_35), (6, .ref z_33), (5, .ref z_31), (0, .ref x0), (1, .int x1), (2, .int x2), (3, .int x3), (4, .int x4)]) hx hb d_F_select_64 hl (by decide) rfl (fun ls hl => ?_)
  refine lv_iconst (v := 0) hx hb d_F_select_66 (by decide) ?_
  refine lv_istore (lv' := [(13, .int 0), (12, .int r_44), (11, .int r_42), (10, .int r_40), (9, .int r_38), (8, .ref z_36), (7, .ref z_35), (6, .ref z_33), (5, .ref z_31), (0, .ref x0), (1, .int x1), (2, .int x2), (3, .int x3), (4, .int x4)]) hx hb d_F_select_67 hl (by decide) rfl (fun ls hl => ?_)
  exact w9 p e s m args below meth c A H locs ls F hw (lv_sub hl [9, 10, 11, 12, 13, 8, 7, 6, 5, 4, 3, 2, 1, 0] rfl)
set_option maxRecDepth 100000 in
set_option maxHeartbeats 4000000 in
theorem t_F_restrictWithinWords_J105 (l : Launch) (Z : XZ) (u0 : PS) {Kv : Option Value → PS → Prop} {R : Int32 → PS → Prop} {E122 : PS → Prop} (x3 : Int32) (x4 : Nat) (x5 : Nat) (x6 : Int64) (x8 : Int32) (x9 : Int32) (x10 : Int32) (u : PS) (hR : ∀ (y10 : Int32) (v : PS), R y10 v → XN l Z i_F_restrictWithinWords u0 Kv v 39 [(3, .int x3), (4, .ref x4), (5, .ref x5), (6, .long x6), (8, .int x8), (9, .int x9), (10, .int y10)] []) (hE122 : ∀ (v : PS), E122 v → XN l Z i_F_restrictWithinWords u0 Kv v 122 [] []) (k : (p_F_restrictWithinWords_J105 R E122 x3 x4 x5 x6 x8 x9 x10 u)) : XN l Z i_F_restrictWithinWords u0 Kv u 105 [(3, .int x3), (4, .ref x4), (5, .ref x5), (6, .long x6), (8, .int x8), (9, .int x9), (10, .int x10)] [] := by
  unfold p_F_restrictWithinWords_J105 at k
  obtain ⟨y1, ey1⟩ : ∃ y9 : Int32, y9 = (((x10 ||| x9) + (1 : Int32)) &&& (x9 ^^^ (-1 : Int32))) := ⟨_, rfl⟩
  have k := k y1 ey1
  obtain ⟨rv, v9, hK, hle_u, w9⟩ := hR y1 u k
  refine ⟨rv, v9, hK, hle_u, ?_⟩
  intro p e s m args below meth c A H locs ls F hw hl
  obtain ⟨⟨hx, hb, hml, hown, hts⟩, hr, hlocks, hmn⟩ := id F
  refine lv_iload hx hb d_F_restrictWithinWords_105 (lv_at hl 6 rfl) ?_
  refine lv_iload hx hb d_F_restrictWithinWords_107 (lv_at hl 5 rfl) ?_
  refine lv_ior hx hb d_F_restrictWithinWords_109 ?_
  refine lv_iconst (v := 1) hx hb d_F_restrictWithinWords_110 (by decide) ?_
  refine lv_iadd hx hb d_F_restrictWithinWords_111 ?_
  refine lv_iload hx hb d_F_restrictWithinWords_112 (lv_at hl 5 rfl) ?_
  refine lv_iconst (v := (-1)) hx hb d_F_restrictWithinWords_114 (by decide) ?_
  refine lv_ixor hx hb d_F_restrictWithinWords_115 ?_
  refine lv_iand hx hb d_F_restrictWithinWords_116 ?_
  refine lv_istore (lv' := [(10, .int y1), (3, .int x3), (4, .ref x4), (5, .ref x5), (6, .long x6), (8, .int x8), (9, .int x9)]) hx hb d_F_restrictWithinWords_117 hl (by decide) (by subst ey1; rfl) (fun ls hl => ?_)
  refine lv_goto (tgt := 39) hx hb d_F_restrictWithinWords_119 (by decide) ?_
  exact w9 p e s m args below meth c A H locs ls F hw (lv_sub hl [1, 2, 3, 4, 5, 6, 0] rfl)
set_option maxRecDepth 100000 in
set_option maxHeartbeats 4000000 in
theorem t_F_restrictWithinWords_L39 (l : Launch) (Z : XZ) (u0 : PS) {Kv : Option Value → PS → Prop} {E122 : PS → Prop} (x3 : Int32) (x4 : Nat) (x5 : Nat) (x6 : Int64) (x8 : Int32) (x9 : Int32) (hE122 : ∀ (v : PS), E122 v → XN l Z i_F_restrictWithinWords u0 Kv v 122 [] []) : ∀ (n : Nat) (x10 : Int32) (u : PS), p_F_restrictWithinWords_L39 x3 x4 x5 x6 x8 x9 E122 n x10 u → XN l Z i_F_restrictWithinWords u0 Kv u 39 [(3, .int x3), (4, .ref x4), (5, .ref x5), (6, .long x6), (8, .int x8), (9, .int x9), (10, .int x10)] [] := by
  intro n
  induction n with
  | zero => intro x10 u k; exact False.elim k
  | succ n ih =>
    intro x10 u k
    rw [p_F_restrictWithinWords_L39] at k
    by_cases hc1 : 16 ≤ x10
    · have k := k.1 hc1
      obtain ⟨rv, v9, hK, hle_u, w9⟩ := hE122 u k
      refine ⟨rv, v9, hK, hle_u, ?_⟩
      intro p e s m args below meth c A H locs ls F hw hl
      obtain ⟨⟨hx, hb, hml, hown, hts⟩, hr, hlocks, hmn⟩ := id F
      refine lv_iload hx hb d_F_restrictWithinWords_39 (lv_at hl 6 rfl) ?_
      refine lv_bipush (v := 16) hx hb d_F_restrictWithinWords_41 (by decide) ?_
      refine lv_icmp_ge (tgt := 122) hx hb d_F_restrictWithinWords_43 (by decide) (fun _ => ?_) (fun c9 => absurd hc1 c9)
      exact w9 p e s m args below meth c A H locs ls F hw (lv_sub hl [] rfl)
    · have k := k.2 hc1
      obtain ⟨z_27, h2, k⟩ := k
      by_cases hc3 : x3 = 1
      · have k := k.2 hc3
        obtain ⟨y4, ey4⟩ : ∃ y9 : Int64, y9 = (z_27 &&& x6) := ⟨_, rfl⟩
        have k := k y4 ey4
        obtain ⟨u_28, h5, k⟩ := k
        obtain ⟨rv, v9, hK, hle_u_28, w9⟩ := t_F_restrictWithinWords_J105 l Z u0 x3 x4 x5 x6 x8 x9 x10 u_28 ih hE122 k
        have hle_u : x_le u v9 := (h5.le).tr hle_u_28
        refine ⟨rv, v9, hK, hle_u, ?_⟩
        intro p e s m args below meth c A H locs ls F hw hl
        obtain ⟨⟨hx, hb, hml, hown, hts⟩, hr, hlocks, hmn⟩ := id F
        refine lv_iload hx hb d_F_restrictWithinWords_39 (lv_at hl 6 rfl) ?_
        refine lv_bipush (v := 16) hx hb d_F_restrictWithinWords_41 (by decide) ?_
        refine lv_icmp_ge (tgt := 122) hx hb d_F_restrictWithinWords_43 (by decide) (fun c9 => absurd c9 hc1) (fun _ => ?_)
        refine lv_aload hx hb d_F_restrictWithinWords_46 (lv_at hl 1 rfl) ?_
        refine lv_iload hx hb d_F_restrictWithinWords_48 (lv_at hl 6 rfl) ?_
        refine xr_lald hx hb hw h2 d_F_restrictWithinWords_50 ?_
        refine lv_lstore (lv' := [(11, .long z_27), (3, .int x3), (4, .ref x4), (5, .ref x5), (6, .long x6), (8, .int x8), (9, .int x9), (10, .int x10)]) hx hb d_F_restrictWithinWords_51 hl (by decide) rfl (fun ls hl => ?_)
        refine lv_iload_n hx hb d_F_restrictWithinWords_53 rfl (lv_at hl 1 rfl) ?_
        refine lv_iconst (v := 1) hx hb d_F_restrictWithinWords_54 (by decide) ?_
        refine lv_icmp_ne (tgt := 81) hx hb d_F_restrictWithinWords_55 (by decide) (fun c9 => absurd hc3 c9) (fun _ => ?_)
        refine lv_lload hx hb d_F_restrictWithinWords_58 (lv_at hl 0 rfl) ?_
        refine lv_lload hx hb d_F_restrictWithinWords_60 (lv_at hl 4 rfl) ?_
        refine lv_land hx hb d_F_restrictWithinWords_62 ?_
        refine lv_lstore (lv' := [(11, .long y4), (3, .int x3), (4, .ref x4), (5, .ref x5), (6, .long x6), (8, .int x8), (9, .int x9), (10, .int x10)]) hx hb d_F_restrictWithinWords_63 hl (by decide) (by subst ey4; rfl) (fun ls hl => ?_)
        refine lv_aload hx hb d_F_restrictWithinWords_65 (lv_at hl 3 rfl) ?_
        refine lv_iload hx hb d_F_restrictWithinWords_67 (lv_at hl 7 rfl) ?_
        refine lv_lload hx hb d_F_restrictWithinWords_69 (lv_at hl 0 rfl) ?_
        refine lv_lload hx hb d_F_restrictWithinWords_71 (lv_at hl 0 rfl) ?_
        refine lv_iload hx hb d_F_restrictWithinWords_73 (lv_at hl 5 rfl) ?_
        refine lv_lushr hx hb d_F_restrictWithinWords_75 rfl ?_
        refine lv_lor hx hb d_F_restrictWithinWords_76 ?_
        refine xr_last hx hb hw h5 d_F_restrictWithinWords_77 (fun H locs hw => ?_)
        refine lv_goto (tgt := 105) hx hb d_F_restrictWithinWords_78 (by decide) ?_
        exact w9 p e s m args below meth c A H locs ls F hw (lv_sub hl [1, 2, 3, 4, 5, 6, 7] rfl)
      · have k := k.1 hc3
        obtain ⟨y6, ey6⟩ : ∃ y9 : Int64, y9 = (z_27 &&& (x6 ^^^ (-1 : Int64))) := ⟨_, rfl⟩
        have k := k y6 ey6
        obtain ⟨u_29, h7, k⟩ := k
        obtain ⟨rv, v9, hK, hle_u_29, w9⟩ := t_F_restrictWithinWords_J105 l Z u0 x3 x4 x5 x6 x8 x9 x10 u_29 ih hE122 k
        have hle_u : x_le u v9 := (h7.le).tr hle_u_29
        refine ⟨rv, v9, hK, hle_u, ?_⟩
        intro p e s m args below meth c A H locs ls F hw hl
        obtain ⟨⟨hx, hb, hml, hown, hts⟩, hr, hlocks, hmn⟩ := id F
        refine lv_iload hx hb d_F_restrictWithinWords_39 (lv_at hl 6 rfl) ?_
        refine lv_bipush (v := 16) hx hb d_F_restrictWithinWords_41 (by decide) ?_
        refine lv_icmp_ge (tgt := 122) hx hb d_F_restrictWithinWords_43 (by decide) (fun c9 => absurd c9 hc1) (fun _ => ?_)
        refine lv_aload hx hb d_F_restrictWithinWords_46 (lv_at hl 1 rfl) ?_
        refine lv_iload hx hb d_F_restrictWithinWords_48 (lv_at hl 6 rfl) ?_
        refine xr_lald hx hb hw h2 d_F_restrictWithinWords_50 ?_
        refine lv_lstore (lv' := [(11, .long z_27), (3, .int x3), (4, .ref x4), (5, .ref x5), (6, .long x6), (8, .int x8), (9, .int x9), (10, .int x10)]) hx hb d_F_restrictWithinWords_51 hl (by decide) rfl (fun ls hl => ?_)
        refine lv_iload_n hx hb d_F_restrictWithinWords_53 rfl (lv_at hl 1 rfl) ?_
        refine lv_iconst (v := 1) hx hb d_F_restrictWithinWords_54 (by decide) ?_
        refine lv_icmp_ne (tgt := 81) hx hb d_F_restrictWithinWords_55 (by decide) (fun _ => ?_) (fun c9 => absurd c9 hc3)
        refine lv_lload hx hb d_F_restrictWithinWords_81 (lv_at hl 0 rfl) ?_
        refine lv_lload hx hb d_F_restrictWithinWords_83 (lv_at hl 4 rfl) ?_
        refine lv_ldc2 (v := (-1)) hx hb hown (hts _ (xm w_273)) d_F_restrictWithinWords_85 ?_
        refine lv_lxor hx hb d_F_restrictWithinWords_88 ?_
        refine lv_land hx hb d_F_restrictWithinWords_89 ?_
        refine lv_lstore (lv' := [(11, .long y6), (3, .int x3), (4, .ref x4), (5, .ref x5), (6, .long x6), (8, .int x8), (9, .int x9), (10, .int x10)]) hx hb d_F_restrictWithinWords_90 hl (by decide) (by subst ey6; rfl) (fun ls hl => ?_)
        refine lv_aload hx hb d_F_restrictWithinWords_92 (lv_at hl 3 rfl) ?_
        refine lv_iload hx hb d_F_restrictWithinWords_94 (lv_at hl 7 rfl) ?_
        refine lv_lload hx hb d_F_restrictWithinWords_96 (lv_at hl 0 rfl) ?_
        refine lv_lload hx hb d_F_restrictWithinWords_98 (lv_at hl 0 rfl) ?_
        refine lv_iload hx hb d_F_restrictWithinWords_100 (lv_at hl 5 rfl) ?_
        refine lv_lshl hx hb d_F_restrictWithinWords_102 rfl ?_
        refine lv_lor hx hb d_F_restrictWithinWords_103 ?_
        refine xr_last hx hb hw h7 d_F_restrictWithinWords_104 (fun H locs hw => ?_)
        exact w9 p e s m args below meth c A H locs ls F hw (lv_sub hl [1, 2, 3, 4, 5, 6, 7] rfl)
set_option maxRecDepth 100000 in
set_option maxHeartbeats 4000000 in
theorem c_F_restrictWithinWords (l : Launch) (Z : XZ) (x0 : Nat) (x1 : Int32) (x2 : Int32) (x3 : Int32) (u : PS) (K : PS → Prop) (k : p_F_restrictWithinWords x0 x1 x2 x3 u K) : ∃ (rv : Option Value) (u1 : PS), (kV K) rv u1 ∧ XMet l Z i_F_restrictWithinWords [.ref x0, .int x1, .int x2, .int x3] u rv u1 := by
  refine x_met (by decide) rfl (Nat.le_of_ble_eq_true rfl) ?_
  show XN l Z i_F_restrictWithinWords u (kV K) u 0 [(0, .ref x0), (1, .int x1), (2, .int x2), (3, .int x3)] []
  unfold p_F_restrictWithinWords at k
  obtain ⟨z_19, h1, k⟩ := k
  obtain ⟨z_20, h2, k⟩ := k
  obtain ⟨z_21, h3, k⟩ := k
  obtain ⟨h4, k⟩ := k
  obtain ⟨y5, ey5⟩ : ∃ y9 : Int64, y9 = (tab_ONES x2.toNatClampNeg) := ⟨_, rfl⟩
  have k := k y5 ey5
  obtain ⟨y6, ey6⟩ : ∃ y9 : Int32, y9 = ((1 : Int32) <<< (x2 &&& 31)) := ⟨_, rfl⟩
  have k := k y6 ey6
  obtain ⟨h8, k⟩ := k
  obtain ⟨_, u_23, ⟨r_24, rfl, k⟩, hM7⟩ := c_F_keptWords l Z x0 x1 u _ k
  obtain ⟨_, u_25, ⟨r_26, rfl, k⟩, hM9⟩ := c_F_leftOut l Z r_24 u_23 _ k
  obtain ⟨n10, k⟩ := k
  have hx12 : ∀ (v11 : PS), (K v11) → XN l Z i_F_restrictWithinWords u (kV K) v11 122 [] [] := by
    intro v11 k
    have hle_v11 : x_le v11 v11 := x_le.rf v11
    refine ⟨none, v11, ⟨rfl, k⟩, hle_v11, ?_⟩
    intro p e s m args below meth c A H locs ls F hw hl
    obtain ⟨⟨hx, hb, hml, hown, hts⟩, hr, hlocks, hmn⟩ := id F
    exact xr_vret F rfl hw d_F_restrictWithinWords_122
  obtain ⟨rv, v9, hK, hle_u_25, w9⟩ := t_F_restrictWithinWords_L39 l Z u x3 z_20 z_21 y5 y6 r_26 hx12 n10 (0 : Int32) u_25 k
  have hle_u_23 : x_le u_23 v9 := (hM9.1).tr hle_u_25
  have hle_u : x_le u v9 := (hM7.1).tr hle_u_23
  refine ⟨rv, v9, hK, hle_u, ?_⟩
  intro p e s m args below meth c A H locs ls F hw hl
  obtain ⟨⟨hx, hb, hml, hown, hts⟩, hr, hlocks, hmn⟩ := id F
  refine lv_aload_n hx hb d_F_restrictWithinWords_0 rfl (lv_at hl 0 rfl) ?_
  refine xr_get hx hb hts (xmu uws_F) hown hw h1 rfl (by decide) (hts _ (xm w_34)) (fun _ h9 => h9) d_F_restrictWithinWords_1 ?_
  refine lv_iload_n hx hb d_F_restrictWithinWords_4 rfl (lv_at hl 1 rfl) ?_
  refine xr_aald hx hb hw rfl h2 d_F_restrictWithinWords_5 ?_
  refine lv_astore (lv' := [(4, .ref z_20), (0, .ref x0), (1, .int x1), (2, .int x2), (3, .int x3)]) hx hb d_F_restrictWithinWords_6 hl (by decide) rfl (fun ls hl => ?_)
  refine lv_aload_n hx hb d_F_restrictWithinWords_8 rfl (lv_at hl 1 rfl) ?_
  refine xr_get hx hb hts (xmu uws_F) hown hw h3 rfl (by decide) (hts _ (xm w_38)) (fun _ h9 => h9) d_F_restrictWithinWords_9 ?_
  refine lv_astore (lv' := [(5, .ref z_21), (4, .ref z_20), (0, .ref x0), (1, .int x1), (2, .int x2), (3, .int x3)]) hx hb d_F_restrictWithinWords_12 hl (by decide) rfl (fun ls hl => ?_)
  refine va_gets hx hb (XG.z_ONES hw.2.2.2.2.2.1) hw.2.2.2.1 hown (hts _ (xm w_271)) (fun _ h9 => h9) d_F_restrictWithinWords_14 ?_
  refine lv_iload_n hx hb d_F_restrictWithinWords_17 rfl (lv_at hl 4 rfl) ?_
  refine va_tl hx hb (XG.t_ONES hw.2.2.2.2.2.1) hw.2.2.2.1 h4 rfl d_F_restrictWithinWords_18 ?_
  refine lv_lstore (lv' := [(6, .long y5), (5, .ref z_21), (4, .ref z_20), (0, .ref x0), (1, .int x1), (2, .int x2), (3, .int x3)]) hx hb d_F_restrictWithinWords_19 hl (by decide) (by subst ey5; rfl) (fun ls hl => ?_)
  refine lv_iconst (v := 1) hx hb d_F_restrictWithinWords_21 (by decide) ?_
  refine lv_iload_n hx hb d_F_restrictWithinWords_22 rfl (lv_at hl 5 rfl) ?_
  refine lv_ishl hx hb d_F_restrictWithinWords_23 ?_
  refine lv_istore (lv' := [(8, .int y6), (6, .long y5), (5, .ref z_21), (4, .ref z_20), (0, .ref x0), (1, .int x1), (2, .int x2), (3, .int x3)]) hx hb d_F_restrictWithinWords_24 hl (by decide) (by subst ey6; rfl) (fun ls hl => ?_)
  refine lv_aload_n hx hb d_F_restrictWithinWords_26 rfl (lv_at hl 4 rfl) ?_
  refine lv_iload_n hx hb d_F_restrictWithinWords_27 rfl (lv_at hl 5 rfl) ?_
  refine xr_cV (As := [.int x1]) (rest := []) ⟨hx, hb, hml, hown, hts⟩ hw hM7 hle_u_23 (fun _ _ => ⟨callB_of 1 hts (xgood w_264) rfl rfl rfl (hts _ (xm w_2)) (hts _ (xm w_261)) ⟨by decide, by decide, by decide +kernel⟩ ⟨Nat.le_of_ble_eq_true rfl, Nat.le_of_ble_eq_true rfl⟩, (hts _ (xm w_263)), (hts _ (xm wp_1))⟩) (qc := (R_F, F_F, 5)) rfl rfl h8 rfl hl.1 rfl (Nat.le_of_ble_eq_true rfl) d_F_restrictWithinWords_28 (fun H locs hw => ?_)
  refine W.eq (g2 := F0 m 31 ls [.int r_24]) rfl ?_
  refine xr_cS (As := [.int r_24]) (rest := []) ⟨hx, hb, hml, hown, hts⟩ hw hM9 hle_u_25 (fun _ _ => ⟨callB_of 1 hts (xgood w_267) rfl rfl rfl (hts _ (xm w_2)) (hts _ (xm w_265)) ⟨by decide, by decide, by decide +kernel⟩ ⟨Nat.le_of_ble_eq_true rfl, Nat.le_of_ble_eq_true rfl⟩, (hts _ (xm w_266))⟩) rfl hl.1 rfl (Nat.le_of_ble_eq_true rfl) d_F_restrictWithinWords_31 (fun H locs hw => ?_)
  refine W.eq (g2 := F0 m 34 ls [.int r_26]) rfl ?_
  refine lv_istore (lv' := [(9, .int r_26), (8, .int y6), (6, .long y5), (5, .ref z_21), (4, .ref z_20), (0, .ref x0), (1, .int x1), (2, .int x2), (3, .int x3)]) hx hb d_F_restrictWithinWords_34 hl (by decide) rfl (fun ls hl => ?_)
  refine lv_iconst (v := 0) hx hb d_F_restrictWithinWords_36 (by decide) ?_
  refine lv_istore (lv' := [(10, .int 0), (9, .int r_26), (8, .int y6), (6, .long y5), (5, .ref z_21), (4, .ref z_20), (0, .ref x0), (1, .int x1), (2, .int x2), (3, .int x3)]) hx hb d_F_restrictWithinWords_37 hl (by decide) rfl (fun ls hl => ?_)
  exact w9 p e s m args below meth c A H locs ls F hw (lv_sub hl [9, 5, 4, 3, 2, 1, 0] rfl)
set_option maxRecDepth 100000 in
set_option maxHeartbeats 4000000 in
theorem t_F_restrictWords_L32 (l : Launch) (Z : XZ) (u0 : PS) {Kv : Option Value → PS → Prop} {E69 : PS → Prop} (x4 : Nat) (x5 : Nat) (x6 : Int32) (x7 : Int32) (hE69 : ∀ (v : PS), E69 v → XN l Z i_F_restrictWords u0 Kv v 69 [] []) : ∀ (n : Nat) (x8 : Int32) (u : PS), p_F_restrictWords_L32 x4 x5 x6 x7 E69 n x8 u → XN l Z i_F_restrictWords u0 Kv u 32 [(4, .ref x4), (5, .ref x5), (6, .int x6), (7, .int x7), (8, .int x8)] [] := by
  intro n
  induction n with
  | zero => intro x8 u k; exact False.elim k
  | succ n ih =>
    intro x8 u k
    rw [p_F_restrictWords_L32] at k
    by_cases hc1 : 16 ≤ x8
    · have k := k.1 hc1
      obtain ⟨rv, v9, hK, hle_u, w9⟩ := hE69 u k
      refine ⟨rv, v9, hK, hle_u, ?_⟩
      intro p e s m args below meth c A H locs ls F hw hl
      obtain ⟨⟨hx, hb, hml, hown, hts⟩, hr, hlocks, hmn⟩ := id F
      refine lv_iload hx hb d_F_restrictWords_32 (lv_at hl 4 rfl) ?_
      refine lv_bipush (v := 16) hx hb d_F_restrictWords_34 (by decide) ?_
      refine lv_icmp_ge (tgt := 69) hx hb d_F_restrictWords_36 (by decide) (fun _ => ?_) (fun c9 => absurd hc1 c9)
      exact w9 p e s m args below meth c A H locs ls F hw (lv_sub hl [] rfl)
    · have k := k.2 hc1
      obtain ⟨z_17, h2, k⟩ := k
      obtain ⟨u_18, h3, k⟩ := k
      obtain ⟨y4, ey4⟩ : ∃ y9 : Int32, y9 = (((x8 ||| x7) + (1 : Int32)) &&& (x7 ^^^ (-1 : Int32))) := ⟨_, rfl⟩
      have k := k y4 ey4
      obtain ⟨rv, v9, hK, hle_u_18, w9⟩ := ih y4 u_18 k
      have hle_u : x_le u v9 := (h3.le).tr hle_u_18
      refine ⟨rv, v9, hK, hle_u, ?_⟩
      intro p e s m args below meth c A H locs ls F hw hl
      obtain ⟨⟨hx, hb, hml, hown, hts⟩, hr, hlocks, hmn⟩ := id F
      refine lv_iload hx hb d_F_restrictWords_32 (lv_at hl 4 rfl) ?_
      refine lv_bipush (v := 16) hx hb d_F_restrictWords_34 (by decide) ?_
      refine lv_icmp_ge (tgt := 69) hx hb d_F_restrictWords_36 (by decide) (fun c9 => absurd c9 hc1) (fun _ => ?_)
      refine lv_aload hx hb d_F_restrictWords_39 (lv_at hl 1 rfl) ?_
      refine lv_iload hx hb d_F_restrictWords_41 (lv_at hl 4 rfl) ?_
      refine lv_aload hx hb d_F_restrictWords_43 (lv_at hl 0 rfl) ?_
      refine lv_iload hx hb d_F_restrictWords_45 (lv_at hl 4 rfl) ?_
      refine lv_iload hx hb d_F_restrictWords_47 (lv_at hl 2 rfl) ?_
      refine lv_ior hx hb d_F_restrictWords_49 ?_
      refine xr_lald hx hb hw h2 d_F_restrictWords_50 ?_
      refine xr_last hx hb hw h3 d_F_restrictWords_51 (fun H locs hw => ?_)
      refine lv_iload hx hb d_F_restrictWords_52 (lv_at hl 4 rfl) ?_
      refine lv_iload hx hb d_F_restrictWords_54 (lv_at hl 3 rfl) ?_
      refine lv_ior hx hb d_F_restrictWords_56 ?_
      refine lv_iconst (v := 1) hx hb d_F_restrictWords_57 (by decide) ?_
      refine lv_iadd hx hb d_F_restrictWords_58 ?_
      refine lv_iload hx hb d_F_restrictWords_59 (lv_at hl 3 rfl) ?_
      refine lv_iconst (v := (-1)) hx hb d_F_restrictWords_61 (by decide) ?_
      refine lv_ixor hx hb d_F_restrictWords_62 ?_
      refine lv_iand hx hb d_F_restrictWords_63 ?_
      refine lv_istore (lv' := [(8, .int y4), (4, .ref x4), (5, .ref x5), (6, .int x6), (7, .int x7)]) hx hb d_F_restrictWords_64 hl (by decide) (by subst ey4; rfl) (fun ls hl => ?_)
      refine lv_goto (tgt := 32) hx hb d_F_restrictWords_66 (by decide) ?_
      exact w9 p e s m args below meth c A H locs ls F hw (lv_sub hl [1, 2, 3, 4, 0] rfl)
set_option maxRecDepth 100000 in
set_option maxHeartbeats 4000000 in
theorem c_F_restrictWords (l : Launch) (Z : XZ) (x0 : Nat) (x1 : Int32) (x2 : Int32) (x3 : Int32) (u : PS) (K : PS → Prop) (k : p_F_restrictWords x0 x1 x2 x3 u K) : ∃ (rv : Option Value) (u1 : PS), (kV K) rv u1 ∧ XMet l Z i_F_restrictWords [.ref x0, .int x1, .int x2, .int x3] u rv u1 := by
  refine x_met (by decide) rfl (Nat.le_of_ble_eq_true rfl) ?_
  show XN l Z i_F_restrictWords u (kV K) u 0 [(0, .ref x0), (1, .int x1), (2, .int x2), (3, .int x3)] []
  unfold p_F_restrictWords at k
  obtain ⟨z_12, h1, k⟩ := k
  obtain ⟨z_13, h2, k⟩ := k
  obtain ⟨z_14, h3, k⟩ := k
  obtain ⟨y4, ey4⟩ : ∃ y9 : Int32, y9 = (x3 >>> ((6 : Int32) &&& 31)) := ⟨_, rfl⟩
  have k := k y4 ey4
  obtain ⟨_, u_15, ⟨r_16, rfl, k⟩, hM5⟩ := c_F_leftOut l Z (x2 >>> ((6 : Int32) &&& 31)) u _ k
  obtain ⟨n6, k⟩ := k
  have hx8 : ∀ (v7 : PS), (K v7) → XN l Z i_F_restrictWords u (kV K) v7 69 [] [] := by
    intro v7 k
    have hle_v7 : x_le v7 v7 := x_le.rf v7
    refine ⟨none, v7, ⟨rfl, k⟩, hle_v7, ?_⟩
    intro p e s m args below meth c A H locs ls F hw hl
    obtain ⟨⟨hx, hb, hml, hown, hts⟩, hr, hlocks, hmn⟩ := id F
    exact xr_vret F rfl hw d_F_restrictWords_69
  obtain ⟨rv, v9, hK, hle_u_15, w9⟩ := t_F_restrictWords_L32 l Z u z_13 z_14 y4 r_16 hx8 n6 (0 : Int32) u_15 k
  have hle_u : x_le u v9 := (hM5.1).tr hle_u_15
  refine ⟨rv, v9, hK, hle_u, ?_⟩
  intro p e s m args below meth c A H locs ls F hw hl
  obtain ⟨⟨hx, hb, hml, hown, hts⟩, hr, hlocks, hmn⟩ := id F
  refine lv_aload_n hx hb d_F_restrictWords_0 rfl (lv_at hl 0 rfl) ?_
  refine xr_get hx hb hts (xmu uws_F) hown hw h1 rfl (by decide) (hts _ (xm w_34)) (fun _ h9 => h9) d_F_restrictWords_1 ?_
  refine lv_iload_n hx hb d_F_restrictWords_4 rfl (lv_at hl 1 rfl) ?_
  refine xr_aald hx hb hw rfl h2 d_F_restrictWords_5 ?_
  refine lv_astore (lv' := [(4, .ref z_13), (0, .ref x0), (1, .int x1), (2, .int x2), (3, .int x3)]) hx hb d_F_restrictWords_6 hl (by decide) rfl (fun ls hl => ?_)
  refine lv_aload_n hx hb d_F_restrictWords_8 rfl (lv_at hl 1 rfl) ?_
  refine xr_get hx hb hts (xmu uws_F) hown hw h3 rfl (by decide) (hts _ (xm w_38)) (fun _ h9 => h9) d_F_restrictWords_9 ?_
  refine lv_astore (lv' := [(5, .ref z_14), (4, .ref z_13), (0, .ref x0), (1, .int x1), (2, .int x2), (3, .int x3)]) hx hb d_F_restrictWords_12 hl (by decide) rfl (fun ls hl => ?_)
  refine lv_iload_n hx hb d_F_restrictWords_14 rfl (lv_at hl 5 rfl) ?_
  refine lv_bipush (v := 6) hx hb d_F_restrictWords_15 (by decide) ?_
  refine lv_ishr hx hb d_F_restrictWords_17 ?_
  refine lv_istore (lv' := [(6, .int y4), (5, .ref z_14), (4, .ref z_13), (0, .ref x0), (1, .int x1), (2, .int x2), (3, .int x3)]) hx hb d_F_restrictWords_18 hl (by decide) (by subst ey4; rfl) (fun ls hl => ?_)
  refine lv_iload_n hx hb d_F_restrictWords_20 rfl (lv_at hl 5 rfl) ?_
  refine lv_bipush (v := 6) hx hb d_F_restrictWords_21 (by decide) ?_
  refine lv_ishr hx hb d_F_restrictWords_23 ?_
  refine xr_cS (As := [.int (x2 >>> ((6 : Int32) &&& 31))]) (rest := []) ⟨hx, hb, hml, hown, hts⟩ hw hM5 hle_u_15 (fun _ _ => ⟨callB_of 1 hts (xgood w_267) rfl rfl rfl (hts _ (xm w_2)) (hts _ (xm w_265)) ⟨by decide, by decide, by decide +kernel⟩ ⟨Nat.le_of_ble_eq_true rfl, Nat.le_of_ble_eq_true rfl⟩, (hts _ (xm w_266))⟩) rfl hl.1 rfl (Nat.le_of_ble_eq_true rfl) d_F_restrictWords_24 (fun H locs hw => ?_)
  refine W.eq (g2 := F0 m 27 ls [.int r_16]) rfl ?_
  refine lv_istore (lv' := [(7, .int r_16), (6, .int y4), (5, .ref z_14), (4, .ref z_13), (0, .ref x0), (1, .int x1), (2, .int x2), (3, .int x3)]) hx hb d_F_restrictWords_27 hl (by decide) rfl (fun ls hl => ?_)
  refine lv_iconst (v := 0) hx hb d_F_restrictWords_29 (by decide) ?_
  refine lv_istore (lv' := [(8, .int 0), (7, .int r_16), (6, .int y4), (5, .ref z_14), (4, .ref z_13), (0, .ref x0), (1, .int x1), (2, .int x2), (3, .int x3)]) hx hb d_F_restrictWords_30 hl (by decide) rfl (fun ls hl => ?_)
  exact w9 p e s m args below meth c A H locs ls F hw (lv_sub hl [4, 3, 2, 1, 0] rfl)
