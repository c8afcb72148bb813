set_option maxRecDepth 100000 in
set_option maxHeartbeats 4000000 in
theorem c_L_constant (l : Launch) (Z : XZ) (x0 : Nat) (x1 : Int32) (x2 : Int32) (u : PS) (K : Int32 → PS → Prop) (k : p_L_constant x0 x1 x2 u K) : ∃ (rv : Option Value) (u1 : PS), (kI K) rv u1 ∧ XMet l Z i_L_constant [.ref x0, .int x1, .int x2] u rv u1 := by
  refine x_meth (by decide) rfl (Nat.le_of_ble_eq_true rfl) ?_
  show XNh hh_L_constant l Z i_L_constant u (kI K) u 0 [(0, .ref x0), (1, .int x1), (2, .int x2)] []
  unfold p_L_constant at k
  obtain ⟨h2, k⟩ := k
  rcases c_H_constant l Z x0 x1 x2 u _ _ k with ⟨_, u_2, ⟨rfl, k⟩, hM1⟩ | ⟨E9, u_2, k, hM1⟩
  ·
    have hle_u_2 : x_le u_2 u_2 := x_le.rf u_2
    have hle_u : x_le u u_2 := (hM1.1).tr hle_u_2
    refine ⟨some (.int 0), u_2, ⟨(0 : Int32), rfl, k⟩, hle_u, ?_⟩
    intro p e s m args below meth c A H locs ls F htab hw hl
    obtain ⟨⟨hx, hb, hml, hown, hts⟩, hr, hlocks, hmn⟩ := id F
    refine lv_aload_n hx hb d_L_constant_0 rfl (lv_at hl 0 rfl) ?_
    refine lv_iload_n hx hb d_L_constant_1 rfl (lv_at hl 1 rfl) ?_
    refine lv_iload_n hx hb d_L_constant_2 rfl (lv_at hl 2 rfl) ?_
    refine xr_cV (As := [.int x1, .int x2]) (rest := []) ⟨hx, hb, hml, hown, hts⟩ hw hM1 hle_u_2 (fun _ _ => ⟨callB_of 2 hts (xgood w_515) rfl rfl rfl (hts _ (xm w_1)) (hts _ (xm w_512)) ⟨by decide, by decide, by decide +kernel⟩ ⟨Nat.le_of_ble_eq_true rfl, Nat.le_of_ble_eq_true rfl⟩, (hts _ (xm w_513)), (hts _ (xm w_514))⟩) (qc := (R_H, F_H, 2)) rfl rfl h2 rfl hl.1 rfl (Nat.le_of_ble_eq_true rfl) d_L_constant_3 (fun H locs hw => ?_)
    refine W.eq (g2 := F0 m 6 ls []) rfl ?_
    refine lv_goto (tgt := 15) hx hb d_L_constant_6 (by decide) ?_
    refine lv_iconst (v := 0) hx hb d_L_constant_15 (by decide) ?_
    exact xr_iret F rfl hw d_L_constant_16
  ·
    rcases k with ⟨rfl, k⟩ | ⟨rfl, k⟩
    ·
      have hle_u_2 : x_le u_2 u_2 := x_le.rf u_2
      have hle_u : x_le u u_2 := (hM1.1).tr hle_u_2
      refine ⟨some (.int 1), u_2, ⟨(1 : Int32), rfl, k⟩, hle_u, ?_⟩
      intro p e s m args below meth c A H locs ls F htab hw hl
      obtain ⟨⟨hx, hb, hml, hown, hts⟩, hr, hlocks, hmn⟩ := id F
      refine lv_aload_n hx hb d_L_constant_0 rfl (lv_at hl 0 rfl) ?_
      refine lv_iload_n hx hb d_L_constant_1 rfl (lv_at hl 1 rfl) ?_
      refine lv_iload_n hx hb d_L_constant_2 rfl (lv_at hl 2 rfl) ?_
      refine xt_cV (As := [.int x1, .int x2]) (rest := []) ⟨hx, hb, hml, hown, hts⟩ hw hM1 hle_u_2 (fun _ _ => ⟨callB_of 2 hts (xgood w_515) rfl rfl rfl (hts _ (xm w_1)) (hts _ (xm w_512)) ⟨by decide, by decide, by decide +kernel⟩ ⟨Nat.le_of_ble_eq_true rfl, Nat.le_of_ble_eq_true rfl⟩, (hts _ (xm w_513)), (hts _ (xm w_514))⟩) (qc := (R_H, F_H, 2)) rfl rfl h2 rfl hl.1 rfl (Nat.le_of_ble_eq_true rfl) d_L_constant_3 (fun q9 ce H locs T9 hw hce hcv hcl hT X9 => ?_)
      refine xt_catch (name := "java/lang/IndexOutOfBoundsException") hown [] ⟨0, 6, 9, 13⟩ [⟨0, 6, 12, 15⟩] (htab.trans rfl) (fun z9 h9 => nomatch h9) (by decide) (by decide) (hts _ (xm w_510)) (hw.2.2.2.2.2.1.cast (List.mem_of_getElem? (i := 521) (by decide +kernel)) _) hce hcv hcl hT X9 ?_
      refine W.eq (g2 := F0 m 9 ls [.ref q9]) rfl ?_
      refine lv_astore_n (lv' := [(3, .ref q9), (0, .ref x0), (1, .int x1), (2, .int x2)]) hx hb d_L_constant_9 rfl hl (by decide) rfl (fun ls hl => ?_)
      refine lv_iconst (v := 1) hx hb d_L_constant_10 (by decide) ?_
      exact xr_iret F rfl hw d_L_constant_11
    ·
      have hle_u_2 : x_le u_2 u_2 := x_le.rf u_2
      have hle_u : x_le u u_2 := (hM1.1).tr hle_u_2
      refine ⟨some (.int 2), u_2, ⟨(2 : Int32), rfl, k⟩, hle_u, ?_⟩
      intro p e s m args below meth c A H locs ls F htab hw hl
      obtain ⟨⟨hx, hb, hml, hown, hts⟩, hr, hlocks, hmn⟩ := id F
      refine lv_aload_n hx hb d_L_constant_0 rfl (lv_at hl 0 rfl) ?_
      refine lv_iload_n hx hb d_L_constant_1 rfl (lv_at hl 1 rfl) ?_
      refine lv_iload_n hx hb d_L_constant_2 rfl (lv_at hl 2 rfl) ?_
      refine xt_cV (As := [.int x1, .int x2]) (rest := []) ⟨hx, hb, hml, hown, hts⟩ hw hM1 hle_u_2 (fun _ _ => ⟨callB_of 2 hts (xgood w_515) rfl rfl rfl (hts _ (xm w_1)) (hts _ (xm w_512)) ⟨by decide, by decide, by decide +kernel⟩ ⟨Nat.le_of_ble_eq_true rfl, Nat.le_of_ble_eq_true rfl⟩, (hts _ (xm w_513)), (hts _ (xm w_514))⟩) (qc := (R_H, F_H, 2)) rfl rfl h2 rfl hl.1 rfl (Nat.le_of_ble_eq_true rfl) d_L_constant_3 (fun q9 ce H locs T9 hw hce hcv hcl hT X9 => ?_)
      refine xt_catch (name := "java/lang/IllegalArgumentException") hown [⟨0, 6, 9, 13⟩] ⟨0, 6, 12, 15⟩ [] (htab.trans rfl) (fun z9 h9 => by cases List.mem_singleton.mp h9; exact ⟨by decide, "java/lang/IndexOutOfBoundsException", (hts _ (xm w_510)), hw.2.2.2.2.2.1.nocast (by decide +kernel)⟩) (by decide) (by decide) (hts _ (xm w_511)) (hw.2.2.2.2.2.1.cast (List.mem_of_getElem? (i := 591) (by decide +kernel)) _) hce hcv hcl hT X9 ?_
      refine W.eq (g2 := F0 m 12 ls [.ref q9]) rfl ?_
      refine lv_astore_n (lv' := [(3, .ref q9), (0, .ref x0), (1, .int x1), (2, .int x2)]) hx hb d_L_constant_12 rfl hl (by decide) rfl (fun ls hl => ?_)
      refine lv_iconst (v := 2) hx hb d_L_constant_13 (by decide) ?_
      exact xr_iret F rfl hw d_L_constant_14
set_option maxRecDepth 100000 in
set_option maxHeartbeats 4000000 in
theorem c_L_input (l : Launch) (Z : XZ) (x0 : Nat) (x1 : Int32) (x2 : Int32) (u : PS) (K : Int32 → PS → Prop) (k : p_L_input x0 x1 x2 u K) : ∃ (rv : Option Value) (u1 : PS), (kI K) rv u1 ∧ XMet l Z i_L_input [.ref x0, .int x1, .int x2] u rv u1 := by
  refine x_meth (by decide) rfl (Nat.le_of_ble_eq_true rfl) ?_
  show XNh hh_L_input l Z i_L_input u (kI K) u 0 [(0, .ref x0), (1, .int x1), (2, .int x2)] []
  unfold p_L_input at k
  obtain ⟨h2, k⟩ := k
  rcases c_H_input l Z x0 x1 x2 u _ _ k with ⟨_, u_2, ⟨rfl, k⟩, hM1⟩ | ⟨E9, u_2, k, hM1⟩
  ·
    have hle_u_2 : x_le u_2 u_2 := x_le.rf u_2
    have hle_u : x_le u u_2 := (hM1.1).tr hle_u_2
    refine ⟨some (.int 0), u_2, ⟨(0 : Int32), rfl, k⟩, hle_u, ?_⟩
    intro p e s m args below meth c A H locs ls F htab hw hl
    obtain ⟨⟨hx, hb, hml, hown, hts⟩, hr, hlocks, hmn⟩ := id F
    refine lv_aload_n hx hb d_L_input_0 rfl (lv_at hl 0 rfl) ?_
    refine lv_iload_n hx hb d_L_input_1 rfl (lv_at hl 1 rfl) ?_
    refine lv_iload_n hx hb d_L_input_2 rfl (lv_at hl 2 rfl) ?_
    refine xr_cV (As := [.int x1, .int x2]) (rest := []) ⟨hx, hb, hml, hown, hts⟩ hw hM1 hle_u_2 (fun _ _ => ⟨callB_of 2 hts (xgood w_619) rfl rfl rfl (hts _ (xm w_1)) (hts _ (xm w_616)) ⟨by decide, by decide, by decide +kernel⟩ ⟨Nat.le_of_ble_eq_true rfl, Nat.le_of_ble_eq_true rfl⟩, (hts _ (xm w_617)), (hts _ (xm w_618))⟩) (qc := (R_H, F_H, 2)) rfl rfl h2 rfl hl.1 rfl (Nat.le_of_ble_eq_true rfl) d_L_input_3 (fun H locs hw => ?_)
    refine W.eq (g2 := F0 m 6 ls []) rfl ?_
    refine lv_goto (tgt := 15) hx hb d_L_input_6 (by decide) ?_
    refine lv_iconst (v := 0) hx hb d_L_input_15 (by decide) ?_
    exact xr_iret F rfl hw d_L_input_16
  ·
    rcases k with ⟨rfl, k⟩ | ⟨rfl, k⟩
    ·
      have hle_u_2 : x_le u_2 u_2 := x_le.rf u_2
      have hle_u : x_le u u_2 := (hM1.1).tr hle_u_2
      refine ⟨some (.int 1), u_2, ⟨(1 : Int32), rfl, k⟩, hle_u, ?_⟩
      intro p e s m args below meth c A H locs ls F htab hw hl
      obtain ⟨⟨hx, hb, hml, hown, hts⟩, hr, hlocks, hmn⟩ := id F
      refine lv_aload_n hx hb d_L_input_0 rfl (lv_at hl 0 rfl) ?_
      refine lv_iload_n hx hb d_L_input_1 rfl (lv_at hl 1 rfl) ?_
      refine lv_iload_n hx hb d_L_input_2 rfl (lv_at hl 2 rfl) ?_
      refine xt_cV (As := [.int x1, .int x2]) (rest := []) ⟨hx, hb, hml, hown, hts⟩ hw hM1 hle_u_2 (fun _ _ => ⟨callB_of 2 hts (xgood w_619) rfl rfl rfl (hts _ (xm w_1)) (hts _ (xm w_616)) ⟨by decide, by decide, by decide +kernel⟩ ⟨Nat.le_of_ble_eq_true rfl, Nat.le_of_ble_eq_true rfl⟩, (hts _ (xm w_617)), (hts _ (xm w_618))⟩) (qc := (R_H, F_H, 2)) rfl rfl h2 rfl hl.1 rfl (Nat.le_of_ble_eq_true rfl) d_L_input_3 (fun q9 ce H locs T9 hw hce hcv hcl hT X9 => ?_)
      refine xt_catch (name := "java/lang/IndexOutOfBoundsException") hown [] ⟨0, 6, 9, 13⟩ [⟨0, 6, 12, 15⟩] (htab.trans rfl) (fun z9 h9 => nomatch h9) (by decide) (by decide) (hts _ (xm w_510)) (hw.2.2.2.2.2.1.cast (List.mem_of_getElem? (i := 521) (by decide +kernel)) _) hce hcv hcl hT X9 ?_
      refine W.eq (g2 := F0 m 9 ls [.ref q9]) rfl ?_
      refine lv_astore_n (lv' := [(3, .ref q9), (0, .ref x0), (1, .int x1), (2, .int x2)]) hx hb d_L_input_9 rfl hl (by decide) rfl (fun ls hl => ?_)
      refine lv_iconst (v := 1) hx hb d_L_input_10 (by decide) ?_
      exact xr_iret F rfl hw d_L_input_11
    ·
      have hle_u_2 : x_le u_2 u_2 := x_le.rf u_2
      have hle_u : x_le u u_2 := (hM1.1).tr hle_u_2
      refine ⟨some (.int 2), u_2, ⟨(2 : Int32), rfl, k⟩, hle_u, ?_⟩
      intro p e s m args below meth c A H locs ls F htab hw hl
      obtain ⟨⟨hx, hb, hml, hown, hts⟩, hr, hlocks, hmn⟩ := id F
      refine lv_aload_n hx hb d_L_input_0 rfl (lv_at hl 0 rfl) ?_
      refine lv_iload_n hx hb d_L_input_1 rfl (lv_at hl 1 rfl) ?_
      refine lv_iload_n hx hb d_L_input_2 rfl (lv_at hl 2 rfl) ?_
      refine xt_cV (As := [.int x1, .int x2]) (rest := []) ⟨hx, hb, hml, hown, hts⟩ hw hM1 hle_u_2 (fun _ _ => ⟨callB_of 2 hts (xgood w_619) rfl rfl rfl (hts _ (xm w_1)) (hts _ (xm w_616)) ⟨by decide, by decide, by decide +kernel⟩ ⟨Nat.le_of_ble_eq_true rfl, Nat.le_of_ble_eq_true rfl⟩, (hts _ (xm w_617)), (hts _ (xm w_618))⟩) (qc := (R_H, F_H, 2)) rfl rfl h2 rfl hl.1 rfl (Nat.le_of_ble_eq_true rfl) d_L_input_3 (fun q9 ce H locs T9 hw hce hcv hcl hT X9 => ?_)
      refine xt_catch (name := "java/lang/IllegalArgumentException") hown [⟨0, 6, 9, 13⟩] ⟨0, 6, 12, 15⟩ [] (htab.trans rfl) (fun z9 h9 => by cases List.mem_singleton.mp h9; exact ⟨by decide, "java/lang/IndexOutOfBoundsException", (hts _ (xm w_510)), hw.2.2.2.2.2.1.nocast (by decide +kernel)⟩) (by decide) (by decide) (hts _ (xm w_511)) (hw.2.2.2.2.2.1.cast (List.mem_of_getElem? (i := 591) (by decide +kernel)) _) hce hcv hcl hT X9 ?_
      refine W.eq (g2 := F0 m 12 ls [.ref q9]) rfl ?_
      refine lv_astore_n (lv' := [(3, .ref q9), (0, .ref x0), (1, .int x1), (2, .int x2)]) hx hb d_L_input_12 rfl hl (by decide) rfl (fun ls hl => ?_)
      refine lv_iconst (v := 2) hx hb d_L_input_13 (by decide) ?_
      exact xr_iret F rfl hw d_L_input_14
set_option maxRecDepth 100000 in
set_option maxHeartbeats 4000000 in
theorem c_L_make (l : Launch) (Z : XZ) (x0 : Nat) (x1 : Int32) (x2 : Int32) (x3 : Int32) (x4 : Int32) (u : PS) (K : Int32 → PS → Prop) (k : p_L_make x0 x1 x2 x3 x4 u K) : ∃ (rv : Option Value) (u1 : PS), (kI K) rv u1 ∧ XMet l Z i_L_make [.ref x0, .int x1, .int x2, .int x3, .int x4] u rv u1 := by
  refine x_meth (by decide) rfl (Nat.le_of_ble_eq_true rfl) ?_
  show XNh hh_L_make l Z i_L_make u (kI K) u 0 [(0, .ref x0), (1, .int x1), (2, .int x2), (3, .int x3), (4, .int x4)] []
  unfold p_L_make at k
  obtain ⟨h2, k⟩ := k
  rcases c_H_make l Z x0 x1 x2 x3 x4 u _ _ k with ⟨_, u_2, ⟨rfl, k⟩, hM1⟩ | ⟨E9, u_2, k, hM1⟩
  ·
    have hle_u_2 : x_le u_2 u_2 := x_le.rf u_2
    have hle_u : x_le u u_2 := (hM1.1).tr hle_u_2
    refine ⟨some (.int 0), u_2, ⟨(0 : Int32), rfl, k⟩, hle_u, ?_⟩
    intro p e s m args below meth c A H locs ls F htab hw hl
    obtain ⟨⟨hx, hb, hml, hown, hts⟩, hr, hlocks, hmn⟩ := id F
    refine lv_aload_n hx hb d_L_make_0 rfl (lv_at hl 0 rfl) ?_
    refine lv_iload_n hx hb d_L_make_1 rfl (lv_at hl 1 rfl) ?_
    refine lv_iload_n hx hb d_L_make_2 rfl (lv_at hl 2 rfl) ?_
    refine lv_iload_n hx hb d_L_make_3 rfl (lv_at hl 3 rfl) ?_
    refine lv_iload hx hb d_L_make_4 (lv_at hl 4 rfl) ?_
    refine xr_cV (As := [.int x1, .int x2, .int x3, .int x4]) (rest := []) ⟨hx, hb, hml, hown, hts⟩ hw hM1 hle_u_2 (fun _ _ => ⟨callB_of 4 hts (xgood w_634) rfl rfl rfl (hts _ (xm w_1)) (hts _ (xm w_631)) ⟨by decide, by decide, by decide +kernel⟩ ⟨Nat.le_of_ble_eq_true rfl, Nat.le_of_ble_eq_true rfl⟩, (hts _ (xm w_632)), (hts _ (xm w_633))⟩) (qc := (R_H, F_H, 2)) rfl rfl h2 rfl hl.1 rfl (Nat.le_of_ble_eq_true rfl) d_L_make_6 (fun H locs hw => ?_)
    refine W.eq (g2 := F0 m 9 ls []) rfl ?_
    refine lv_goto (tgt := 20) hx hb d_L_make_9 (by decide) ?_
    refine lv_iconst (v := 0) hx hb d_L_make_20 (by decide) ?_
    exact xr_iret F rfl hw d_L_make_21
  ·
    rcases k with ⟨rfl, k⟩ | ⟨rfl, k⟩
    ·
      have hle_u_2 : x_le u_2 u_2 := x_le.rf u_2
      have hle_u : x_le u u_2 := (hM1.1).tr hle_u_2
      refine ⟨some (.int 1), u_2, ⟨(1 : Int32), rfl, k⟩, hle_u, ?_⟩
      intro p e s m args below meth c A H locs ls F htab hw hl
      obtain ⟨⟨hx, hb, hml, hown, hts⟩, hr, hlocks, hmn⟩ := id F
      refine lv_aload_n hx hb d_L_make_0 rfl (lv_at hl 0 rfl) ?_
      refine lv_iload_n hx hb d_L_make_1 rfl (lv_at hl 1 rfl) ?_
      refine lv_iload_n hx hb d_L_make_2 rfl (lv_at hl 2 rfl) ?_
      refine lv_iload_n hx hb d_L_make_3 rfl (lv_at hl 3 rfl) ?_
      refine lv_iload hx hb d_L_make_4 (lv_at hl 4 rfl) ?_
      refine xt_cV (As := [.int x1, .int x2, .int x3, .int x4]) (rest := []) ⟨hx, hb, hml, hown, hts⟩ hw hM1 hle_u_2 (fun _ _ => ⟨callB_of 4 hts (xgood w_634) rfl rfl rfl (hts _ (xm w_1)) (hts _ (xm w_631)) ⟨by decide, by decide, by decide +kernel⟩ ⟨Nat.le_of_ble_eq_true rfl, Nat.le_of_ble_eq_true rfl⟩, (hts _ (xm w_632)), (hts _ (xm w_633))⟩) (qc := (R_H, F_H, 2)) rfl rfl h2 rfl hl.1 rfl (Nat.le_of_ble_eq_true rfl) d_L_make_6 (fun q9 ce H locs T9 hw hce hcv hcl hT X9 => ?_)
      refine xt_catch (name := "java/lang/IndexOutOfBoundsException") hown [] ⟨0, 9, 12, 13⟩ [⟨0, 9, 16, 15⟩] (htab.trans rfl) (fun z9 h9 => nomatch h9) (by decide) (by decide) (hts _ (xm w_510)) (hw.2.2.2.2.2.1.cast (List.mem_of_getElem? (i := 521) (by decide +kernel)) _) hce hcv hcl hT X9 ?_
      refine W.eq (g2 := F0 m 12 ls [.ref q9]) rfl ?_
      refine lv_astore (lv' := [(5, .ref q9), (0, .ref x0), (1, .int x1), (2, .int x2), (3, .int x3), (4, .int x4)]) hx hb d_L_make_12 hl (by decide) rfl (fun ls hl => ?_)
      refine lv_iconst (v := 1) hx hb d_L_make_14 (by decide) ?_
      exact xr_iret F rfl hw d_L_make_15
    ·
      have hle_u_2 : x_le u_2 u_2 := x_le.rf u_2
      have hle_u : x_le u u_2 := (hM1.1).tr hle_u_2
      refine ⟨some (.int 2), u_2, ⟨(2 : Int32), rfl, k⟩, hle_u, ?_⟩
      intro p e s m args below meth c A H locs ls F htab hw hl
      obtain ⟨⟨hx, hb, hml, hown, hts⟩, hr, hlocks, hmn⟩ := id F
      refine lv_aload_n hx hb d_L_make_0 rfl (lv_at hl 0 rfl) ?_
      refine lv_iload_n hx hb d_L_make_1 rfl (lv_at hl 1 rfl) ?_
      refine lv_iload_n hx hb d_L_make_2 rfl (lv_at hl 2 rfl) ?_
      refine lv_iload_n hx hb d_L_make_3 rfl (lv_at hl 3 rfl) ?_
      refine lv_iload hx hb d_L_make_4 (lv_at hl 4 rfl) ?_
      refine xt_cV (As := [.int x1, .int x2, .int x3, .int x4]) (rest := []) ⟨hx, hb, hml, hown, hts⟩ hw hM1 hle_u_2 (fun _ _ => ⟨callB_of 4 hts (xgood w_634) rfl rfl rfl (hts _ (xm w_1)) (hts _ (xm w_631)) ⟨by decide, by decide, by decide +kernel⟩ ⟨Nat.le_of_ble_eq_true rfl, Nat.le_of_ble_eq_true rfl⟩, (hts _ (xm w_632)), (hts _ (xm w_633))⟩) (qc := (R_H, F_H, 2)) rfl rfl h2 rfl hl.1 rfl (Nat.le_of_ble_eq_true rfl) d_L_make_6 (fun q9 ce H locs T9 hw hce hcv hcl hT X9 => ?_)
      refine xt_catch (name := "java/lang/IllegalArgumentException") hown [⟨0, 9, 12, 13⟩] ⟨0, 9, 16, 15⟩ [] (htab.trans rfl) (fun z9 h9 => by cases List.mem_singleton.mp h9; exact ⟨by decide, "java/lang/IndexOutOfBoundsException", (hts _ (xm w_510)), hw.2.2.2.2.2.1.nocast (by decide +kernel)⟩) (by decide) (by decide) (hts _ (xm w_511)) (hw.2.2.2.2.2.1.cast (List.mem_of_getElem? (i := 591) (by decide +kernel)) _) hce hcv hcl hT X9 ?_
      refine W.eq (g2 := F0 m 16 ls [.ref q9]) rfl ?_
      refine lv_astore (lv' := [(5, .ref q9), (0, .ref x0), (1, .int x1), (2, .int x2), (3, .int x3), (4, .int x4)]) hx hb d_L_make_16 hl (by decide) rfl (fun ls hl => ?_)
      refine lv_iconst (v := 2) hx hb d_L_make_18 (by decide) ?_
      exact xr_iret F rfl hw d_L_make_19
set_option maxRecDepth 100000 in
set_option maxHeartbeats 4000000 in
theorem c_L_choose (l : Launch) (Z : XZ) (x0 : Nat) (x1 : Int32) (x2 : Int32) (x3 : Int32) (x4 : Int32) (u : PS) (K : Int32 → PS → Prop) (k : p_L_choose x0 x1 x2 x3 x4 u K) : ∃ (rv : Option Value) (u1 : PS), (kI K) rv u1 ∧ XMet l Z i_L_choose [.ref x0, .int x1, .int x2, .int x3, .int x4] u rv u1 := by
  refine x_meth (by decide) rfl (Nat.le_of_ble_eq_true rfl) ?_
  show XNh hh_L_choose l Z i_L_choose u (kI K) u 0 [(0, .ref x0), (1, .int x1), (2, .int x2), (3, .int x3), (4, .int x4)] []
  unfold p_L_choose at k
  obtain ⟨h2, k⟩ := k
  rcases c_H_choose l Z x0 x1 x2 x3 x4 u _ _ k with ⟨_, u_2, ⟨rfl, k⟩, hM1⟩ | ⟨E9, u_2, k, hM1⟩
  ·
    have hle_u_2 : x_le u_2 u_2 := x_le.rf u_2
    have hle_u : x_le u u_2 := (hM1.1).tr hle_u_2
    refine ⟨some (.int 0), u_2, ⟨(0 : Int32), rfl, k⟩, hle_u, ?_⟩
    intro p e s m args below meth c A H locs ls F htab hw hl
    obtain ⟨⟨hx, hb, hml, hown, hts⟩, hr, hlocks, hmn⟩ := id F
    refine lv_aload_n hx hb d_L_choose_0 rfl (lv_at hl 0 rfl) ?_
    refine lv_iload_n hx hb d_L_choose_1 rfl (lv_at hl 1 rfl) ?_
    refine lv_iload_n hx hb d_L_choose_2 rfl (lv_at hl 2 rfl) ?_
    refine lv_iload_n hx hb d_L_choose_3 rfl (lv_at hl 3 rfl) ?_
    refine lv_iload hx hb d_L_choose_4 (lv_at hl 4 rfl) ?_
    refine xr_cV (As := [.int x1, .int x2, .int x3, .int x4]) (rest := []) ⟨hx, hb, hml, hown, hts⟩ hw hM1 hle_u_2 (fun _ _ => ⟨callB_of 4 hts (xgood w_656) rfl rfl rfl (hts _ (xm w_1)) (hts _ (xm w_653)) ⟨by decide, by decide, by decide +kernel⟩ ⟨Nat.le_of_ble_eq_true rfl, Nat.le_of_ble_eq_true rfl⟩, (hts _ (xm w_654)), (hts _ (xm w_655))⟩) (qc := (R_H, F_H, 2)) rfl rfl h2 rfl hl.1 rfl (Nat.le_of_ble_eq_true rfl) d_L_choose_6 (fun H locs hw => ?_)
    refine W.eq (g2 := F0 m 9 ls []) rfl ?_
    refine lv_goto (tgt := 16) hx hb d_L_choose_9 (by decide) ?_
    refine lv_iconst (v := 0) hx hb d_L_choose_16 (by decide) ?_
    exact xr_iret F rfl hw d_L_choose_17
  ·
    rcases k with ⟨rfl, k⟩
    have hle_u_2 : x_le u_2 u_2 := x_le.rf u_2
    have hle_u : x_le u u_2 := (hM1.1).tr hle_u_2
    refine ⟨some (.int 1), u_2, ⟨(1 : Int32), rfl, k⟩, hle_u, ?_⟩
    intro p e s m args below meth c A H locs ls F htab hw hl
    obtain ⟨⟨hx, hb, hml, hown, hts⟩, hr, hlocks, hmn⟩ := id F
    refine lv_aload_n hx hb d_L_choose_0 rfl (lv_at hl 0 rfl) ?_
    refine lv_iload_n hx hb d_L_choose_1 rfl (lv_at hl 1 rfl) ?_
    refine lv_iload_n hx hb d_L_choose_2 rfl (lv_at hl 2 rfl) ?_
    refine lv_iload_n hx hb d_L_choose_3 rfl (lv_at hl 3 rfl) ?_
    refine lv_iload hx hb d_L_choose_4 (lv_at hl 4 rfl) ?_
    refine xt_cV (As := [.int x1, .int x2, .int x3, .int x4]) (rest := []) ⟨hx, hb, hml, hown, hts⟩ hw hM1 hle_u_2 (fun _ _ => ⟨callB_of 4 hts (xgood w_656) rfl rfl rfl (hts _ (xm w_1)) (hts _ (xm w_653)) ⟨by decide, by decide, by decide +kernel⟩ ⟨Nat.le_of_ble_eq_true rfl, Nat.le_of_ble_eq_true rfl⟩, (hts _ (xm w_654)), (hts _ (xm w_655))⟩) (qc := (R_H, F_H, 2)) rfl rfl h2 rfl hl.1 rfl (Nat.le_of_ble_eq_true rfl) d_L_choose_6 (fun q9 ce H locs T9 hw hce hcv hcl hT X9 => ?_)
    refine xt_catch (name := "java/lang/IndexOutOfBoundsException") hown [] ⟨0, 9, 12, 13⟩ [] (htab.trans rfl) (fun z9 h9 => nomatch h9) (by decide) (by decide) (hts _ (xm w_510)) (hw.2.2.2.2.2.1.cast (List.mem_of_getElem? (i := 521) (by decide +kernel)) _) hce hcv hcl hT X9 ?_
    refine W.eq (g2 := F0 m 12 ls [.ref q9]) rfl ?_
    refine lv_astore (lv' := [(5, .ref q9), (0, .ref x0), (1, .int x1), (2, .int x2), (3, .int x3), (4, .int x4)]) hx hb d_L_choose_12 hl (by decide) rfl (fun ls hl => ?_)
    refine lv_iconst (v := 1) hx hb d_L_choose_14 (by decide) ?_
    exact xr_iret F rfl hw d_L_choose_15
set_option maxRecDepth 100000 in
set_option maxHeartbeats 4000000 in
theorem c_L_fix (l : Launch) (Z : XZ) (x0 : Nat) (x1 : Int32) (x2 : Int32) (x3 : Int32) (x4 : Int32) (u : PS) (K : Int32 → PS → Prop) (k : p_L_fix x0 x1 x2 x3 x4 u K) : ∃ (rv : Option Value) (u1 : PS), (kI K) rv u1 ∧ XMet l Z i_L_fix [.ref x0, .int x1, .int x2, .int x3, .int x4] u rv u1 := by
  refine x_meth (by decide) rfl (Nat.le_of_ble_eq_true rfl) ?_
  show XNh hh_L_fix l Z i_L_fix u (kI K) u 0 [(0, .ref x0), (1, .int x1), (2, .int x2), (3, .int x3), (4, .int x4)] []
  unfold p_L_fix at k
  obtain ⟨h2, k⟩ := k
  rcases c_H_fix l Z x0 x1 x2 x3 x4 u _ _ k with ⟨_, u_2, ⟨rfl, k⟩, hM1⟩ | ⟨E9, u_2, k, hM1⟩
  ·
    have hle_u_2 : x_le u_2 u_2 := x_le.rf u_2
    have hle_u : x_le u u_2 := (hM1.1).tr hle_u_2
    refine ⟨some (.int 0), u_2, ⟨(0 : Int32), rfl, k⟩, hle_u, ?_⟩
    intro p e s m args below meth c A H locs ls F htab hw hl
    obtain ⟨⟨hx, hb, hml, hown, hts⟩, hr, hlocks, hmn⟩ := id F
    refine lv_aload_n hx hb d_L_fix_0 rfl (lv_at hl 0 rfl) ?_
    refine lv_iload_n hx hb d_L_fix_1 rfl (lv_at hl 1 rfl) ?_
    refine lv_iload_n hx hb d_L_fix_2 rfl (lv_at hl 2 rfl) ?_
    refine lv_iload_n hx hb d_L_fix_3 rfl (lv_at hl 3 rfl) ?_
    refine lv_iload hx hb d_L_fix_4 (lv_at hl 4 rfl) ?_
    refine xr_cV (As := [.int x1, .int x2, .int x3, .int x4]) (rest := []) ⟨hx, hb, hml, hown, hts⟩ hw hM1 hle_u_2 (fun _ _ => ⟨callB_of 4 hts (xgood w_667) rfl rfl rfl (hts _ (xm w_1)) (hts _ (xm w_664)) ⟨by decide, by decide, by decide +kernel⟩ ⟨Nat.le_of_ble_eq_true rfl, Nat.le_of_ble_eq_true rfl⟩, (hts _ (xm w_665)), (hts _ (xm w_666))⟩) (qc := (R_H, F_H, 2)) rfl rfl h2 rfl hl.1 rfl (Nat.le_of_ble_eq_true rfl) d_L_fix_6 (fun H locs hw => ?_)
    refine W.eq (g2 := F0 m 9 ls []) rfl ?_
    refine lv_goto (tgt := 20) hx hb d_L_fix_9 (by decide) ?_
    refine lv_iconst (v := 0) hx hb d_L_fix_20 (by decide) ?_
    exact xr_iret F rfl hw d_L_fix_21
  ·
    rcases k with ⟨rfl, k⟩ | ⟨rfl, k⟩
    ·
      have hle_u_2 : x_le u_2 u_2 := x_le.rf u_2
      have hle_u : x_le u u_2 := (hM1.1).tr hle_u_2
      refine ⟨some (.int 1), u_2, ⟨(1 : Int32), rfl, k⟩, hle_u, ?_⟩
      intro p e s m args below meth c A H locs ls F htab hw hl
      obtain ⟨⟨hx, hb, hml, hown, hts⟩, hr, hlocks, hmn⟩ := id F
      refine lv_aload_n hx hb d_L_fix_0 rfl (lv_at hl 0 rfl) ?_
      refine lv_iload_n hx hb d_L_fix_1 rfl (lv_at hl 1 rfl) ?_
      refine lv_iload_n hx hb d_L_fix_2 rfl (lv_at hl 2 rfl) ?_
      refine lv_iload_n hx hb d_L_fix_3 rfl (lv_at hl 3 rfl) ?_
      refine lv_iload hx hb d_L_fix_4 (lv_at hl 4 rfl) ?_
      refine xt_cV (As := [.int x1, .int x2, .int x3, .int x4]) (rest := []) ⟨hx, hb, hml, hown, hts⟩ hw hM1 hle_u_2 (fun _ _ => ⟨callB_of 4 hts (xgood w_667) rfl rfl rfl (hts _ (xm w_1)) (hts _ (xm w_664)) ⟨by decide, by decide, by decide +kernel⟩ ⟨Nat.le_of_ble_eq_true rfl, Nat.le_of_ble_eq_true rfl⟩, (hts _ (xm w_665)), (hts _ (xm w_666))⟩) (qc := (R_H, F_H, 2)) rfl rfl h2 rfl hl.1 rfl (Nat.le_of_ble_eq_true rfl) d_L_fix_6 (fun q9 ce H locs T9 hw hce hcv hcl hT X9 => ?_)
      refine xt_catch (name := "java/lang/IndexOutOfBoundsException") hown [] ⟨0, 9, 12, 13⟩ [⟨0, 9, 16, 15⟩] (htab.trans rfl) (fun z9 h9 => nomatch h9) (by decide) (by decide) (hts _ (xm w_510)) (hw.2.2.2.2.2.1.cast (List.mem_of_getElem? (i := 521) (by decide +kernel)) _) hce hcv hcl hT X9 ?_
      refine W.eq (g2 := F0 m 12 ls [.ref q9]) rfl ?_
      refine lv_astore (lv' := [(5, .ref q9), (0, .ref x0), (1, .int x1), (2, .int x2), (3, .int x3), (4, .int x4)]) hx hb d_L_fix_12 hl (by decide) rfl (fun ls hl => ?_)
      refine lv_iconst (v := 1) hx hb d_L_fix_14 (by decide) ?_
      exact xr_iret F rfl hw d_L_fix_15
    ·
      have hle_u_2 : x_le u_2 u_2 := x_le.rf u_2
      have hle_u : x_le u u_2 := (hM1.1).tr hle_u_2
      refine ⟨some (.int 2), u_2, ⟨(2 : Int32), rfl, k⟩, hle_u, ?_⟩
      intro p e s m args below meth c A H locs ls F htab hw hl
      obtain ⟨⟨hx, hb, hml, hown, hts⟩, hr, hlocks, hmn⟩ := id F
      refine lv_aload_n hx hb d_L_fix_0 rfl (lv_at hl 0 rfl) ?_
      refine lv_iload_n hx hb d_L_fix_1 rfl (lv_at hl 1 rfl) ?_
      refine lv_iload_n hx hb d_L_fix_2 rfl (lv_at hl 2 rfl) ?_
      refine lv_iload_n hx hb d_L_fix_3 rfl (lv_at hl 3 rfl) ?_
      refine lv_iload hx hb d_L_fix_4 (lv_at hl 4 rfl) ?_
      refine xt_cV (As := [.int x1, .int x2, .int x3, .int x4]) (rest := []) ⟨hx, hb, hml, hown, hts⟩ hw hM1 hle_u_2 (fun _ _ => ⟨callB_of 4 hts (xgood w_667) rfl rfl rfl (hts _ (xm w_1)) (hts _ (xm w_664)) ⟨by decide, by decide, by decide +kernel⟩ ⟨Nat.le_of_ble_eq_true rfl, Nat.le_of_ble_eq_true rfl⟩, (hts _ (xm w_665)), (hts _ (xm w_666))⟩) (qc := (R_H, F_H, 2)) rfl rfl h2 rfl hl.1 rfl (Nat.le_of_ble_eq_true rfl) d_L_fix_6 (fun q9 ce H locs T9 hw hce hcv hcl hT X9 => ?_)
      refine xt_catch (name := "java/lang/IllegalArgumentException") hown [⟨0, 9, 12, 13⟩] ⟨0, 9, 16, 15⟩ [] (htab.trans rfl) (fun z9 h9 => by cases List.mem_singleton.mp h9; exact ⟨by decide, "java/lang/IndexOutOfBoundsException", (hts _ (xm w_510)), hw.2.2.2.2.2.1.nocast (by decide +kernel)⟩) (by decide) (by decide) (hts _ (xm w_511)) (hw.2.2.2.2.2.1.cast (List.mem_of_getElem? (i := 591) (by decide +kernel)) _) hce hcv hcl hT X9 ?_
      refine W.eq (g2 := F0 m 16 ls [.ref q9]) rfl ?_
      refine lv_astore (lv' := [(5, .ref q9), (0, .ref x0), (1, .int x1), (2, .int x2), (3, .int x3), (4, .int x4)]) hx hb d_L_fix_16 hl (by decide) rfl (fun ls hl => ?_)
      refine lv_iconst (v := 2) hx hb d_L_fix_18 (by decide) ?_
      exact xr_iret F rfl hw d_L_fix_19
set_option maxRecDepth 100000 in
set_option maxHeartbeats 4000000 in
theorem c_L_compose (l : Launch) (Z : XZ) (x0 : Nat) (x1 : Int32) (x2 : Int32) (x3 : Int32) (x4 : Int32) (u : PS) (K : Int32 → PS → Prop) (k : p_L_compose x0 x1 x2 x3 x4 u K) : ∃ (rv : Option Value) (u1 : PS), (kI K) rv u1 ∧ XMet l Z i_L_compose [.ref x0, .int x1, .int x2, .int x3, .int x4] u rv u1 := by
  refine x_meth (by decide) rfl (Nat.le_of_ble_eq_true rfl) ?_
  show XNh hh_L_compose l Z i_L_compose u (kI K) u 0 [(0, .ref x0), (1, .int x1), (2, .int x2), (3, .int x3), (4, .int x4)] []
  unfold p_L_compose at k
  obtain ⟨h2, k⟩ := k
  rcases c_H_compose l Z x0 x1 x2 x3 x4 u _ _ k with ⟨_, u_2, ⟨rfl, k⟩, hM1⟩ | ⟨E9, u_2, k, hM1⟩
  ·
    have hle_u_2 : x_le u_2 u_2 := x_le.rf u_2
    have hle_u : x_le u u_2 := (hM1.1).tr hle_u_2
    refine ⟨some (.int 0), u_2, ⟨(0 : Int32), rfl, k⟩, hle_u, ?_⟩
    intro p e s m args below meth c A H locs ls F htab hw hl
    obtain ⟨⟨hx, hb, hml, hown, hts⟩, hr, hlocks, hmn⟩ := id F
    refine lv_aload_n hx hb d_L_compose_0 rfl (lv_at hl 0 rfl) ?_
    refine lv_iload_n hx hb d_L_compose_1 rfl (lv_at hl 1 rfl) ?_
    refine lv_iload_n hx hb d_L_compose_2 rfl (lv_at hl 2 rfl) ?_
    refine lv_iload_n hx hb d_L_compose_3 rfl (lv_at hl 3 rfl) ?_
    refine lv_iload hx hb d_L_compose_4 (lv_at hl 4 rfl) ?_
    refine xr_cV (As := [.int x1, .int x2, .int x3, .int x4]) (rest := []) ⟨hx, hb, hml, hown, hts⟩ hw hM1 hle_u_2 (fun _ _ => ⟨callB_of 4 hts (xgood w_686) rfl rfl rfl (hts _ (xm w_1)) (hts _ (xm w_683)) ⟨by decide, by decide, by decide +kernel⟩ ⟨Nat.le_of_ble_eq_true rfl, Nat.le_of_ble_eq_true rfl⟩, (hts _ (xm w_684)), (hts _ (xm w_685))⟩) (qc := (R_H, F_H, 2)) rfl rfl h2 rfl hl.1 rfl (Nat.le_of_ble_eq_true rfl) d_L_compose_6 (fun H locs hw => ?_)
    refine W.eq (g2 := F0 m 9 ls []) rfl ?_
    refine lv_goto (tgt := 20) hx hb d_L_compose_9 (by decide) ?_
    refine lv_iconst (v := 0) hx hb d_L_compose_20 (by decide) ?_
    exact xr_iret F rfl hw d_L_compose_21
  ·
    rcases k with ⟨rfl, k⟩ | ⟨rfl, k⟩
    ·
      have hle_u_2 : x_le u_2 u_2 := x_le.rf u_2
      have hle_u : x_le u u_2 := (hM1.1).tr hle_u_2
      refine ⟨some (.int 1), u_2, ⟨(1 : Int32), rfl, k⟩, hle_u, ?_⟩
      intro p e s m args below meth c A H locs ls F htab hw hl
      obtain ⟨⟨hx, hb, hml, hown, hts⟩, hr, hlocks, hmn⟩ := id F
      refine lv_aload_n hx hb d_L_compose_0 rfl (lv_at hl 0 rfl) ?_
      refine lv_iload_n hx hb d_L_compose_1 rfl (lv_at hl 1 rfl) ?_
      refine lv_iload_n hx hb d_L_compose_2 rfl (lv_at hl 2 rfl) ?_
      refine lv_iload_n hx hb d_L_compose_3 rfl (lv_at hl 3 rfl) ?_
      refine lv_iload hx hb d_L_compose_4 (lv_at hl 4 rfl) ?_
      refine xt_cV (As := [.int x1, .int x2, .int x3, .int x4]) (rest := []) ⟨hx, hb, hml, hown, hts⟩ hw hM1 hle_u_2 (fun _ _ => ⟨callB_of 4 hts (xgood w_686) rfl rfl rfl (hts _ (xm w_1)) (hts _ (xm w_683)) ⟨by decide, by decide, by decide +kernel⟩ ⟨Nat.le_of_ble_eq_true rfl, Nat.le_of_ble_eq_true rfl⟩, (hts _ (xm w_684)), (hts _ (xm w_685))⟩) (qc := (R_H, F_H, 2)) rfl rfl h2 rfl hl.1 rfl (Nat.le_of_ble_eq_true rfl) d_L_compose_6 (fun q9 ce H locs T9 hw hce hcv hcl hT X9 => ?_)
      refine xt_catch (name := "java/lang/IndexOutOfBoundsException") hown [] ⟨0, 9, 12, 13⟩ [⟨0, 9, 16, 15⟩] (htab.trans rfl) (fun z9 h9 => nomatch h9) (by decide) (by decide) (hts _ (xm w_510)) (hw.2.2.2.2.2.1.cast (List.mem_of_getElem? (i := 521) (by decide +kernel)) _) hce hcv hcl hT X9 ?_
      refine W.eq (g2 := F0 m 12 ls [.ref q9]) rfl ?_
      refine lv_astore (lv' := [(5, .ref q9), (0, .ref x0), (1, .int x1), (2, .int x2), (3, .int x3), (4, .int x4)]) hx hb d_L_compose_12 hl (by decide) rfl (fun ls hl => ?_)
      refine lv_iconst (v := 1) hx hb d_L_compose_14 (by decide) ?_
      exact xr_iret F rfl hw d_L_compose_15
    ·
      have hle_u_2 : x_le u_2 u_2 := x_le.rf u_2
      have hle_u : x_le u u_2 := (hM1.1).tr hle_u_2
      refine ⟨some (.int 2), u_2, ⟨(2 : Int32), rfl, k⟩, hle_u, ?_⟩
      intro p e s m args below meth c A H locs ls F htab hw hl
      obtain ⟨⟨hx, hb, hml, hown, hts⟩, hr, hlocks, hmn⟩ := id F
      refine lv_aload_n hx hb d_L_compose_0 rfl (lv_at hl 0 rfl) ?_
      refine lv_iload_n hx hb d_L_compose_1 rfl (lv_at hl 1 rfl) ?_
      refine lv_iload_n hx hb d_L_compose_2 rfl (lv_at hl 2 rfl) ?_
      refine lv_iload_n hx hb d_L_compose_3 rfl (lv_at hl 3 rfl) ?_
      refine lv_iload hx hb d_L_compose_4 (lv_at hl 4 rfl) ?_
      refine xt_cV (As := [.int x1, .int x2, .int x3, .int x4]) (rest := []) ⟨hx, hb, hml, hown, hts⟩ hw hM1 hle_u_2 (fun _ _ => ⟨callB_of 4 hts (xgood w_686) rfl rfl rfl (hts _ (xm w_1)) (hts _ (xm w_683)) ⟨by decide, by decide, by decide +kernel⟩ ⟨Nat.le_of_ble_eq_true rfl, Nat.le_of_ble_eq_true rfl⟩, (hts _ (xm w_684)), (hts _ (xm w_685))⟩) (qc := (R_H, F_H, 2)) rfl rfl h2 rfl hl.1 rfl (Nat.le_of_ble_eq_true rfl) d_L_compose_6 (fun q9 ce H locs T9 hw hce hcv hcl hT X9 => ?_)
      refine xt_catch (name := "java/lang/IllegalArgumentException") hown [⟨0, 9, 12, 13⟩] ⟨0, 9, 16, 15⟩ [] (htab.trans rfl) (fun z9 h9 => by cases List.mem_singleton.mp h9; exact ⟨by decide, "java/lang/IndexOutOfBoundsException", (hts _ (xm w_510)), hw.2.2.2.2.2.1.nocast (by decide +kernel)⟩) (by decide) (by decide) (hts _ (xm w_511)) (hw.2.2.2.2.2.1.cast (List.mem_of_getElem? (i := 591) (by decide +kernel)) _) hce hcv hcl hT X9 ?_
      refine W.eq (g2 := F0 m 16 ls [.ref q9]) rfl ?_
      refine lv_astore (lv' := [(5, .ref q9), (0, .ref x0), (1, .int x1), (2, .int x2), (3, .int x3), (4, .int x4)]) hx hb d_L_compose_16 hl (by decide) rfl (fun ls hl => ?_)
      refine lv_iconst (v := 2) hx hb d_L_compose_18 (by decide) ?_
      exact xr_iret F rfl hw d_L_compose_19
set_option maxRecDepth 100000 in
set_option maxHeartbeats 4000000 in
theorem c_L_quantify (l : Launch) (Z : XZ) (x0 : Nat) (x1 : Int32) (x2 : Int32) (x3 : Int32) (x4 : Int32) (u : PS) (K : Int32 → PS → Prop) (k : p_L_quantify x0 x1 x2 x3 x4 u K) : ∃ (rv : Option Value) (u1 : PS), (kI K) rv u1 ∧ XMet l Z i_L_quantify [.ref x0, .int x1, .int x2, .int x3, .int x4] u rv u1 := by
  refine x_meth (by decide) rfl (Nat.le_of_ble_eq_true rfl) ?_
  show XNh hh_L_quantify l Z i_L_quantify u (kI K) u 0 [(0, .ref x0), (1, .int x1), (2, .int x2), (3, .int x3), (4, .int x4)] []
  unfold p_L_quantify at k
  obtain ⟨h2, k⟩ := k
  rcases c_H_quantify l Z x0 x1 x2 x3 x4 u _ _ k with ⟨_, u_2, ⟨rfl, k⟩, hM1⟩ | ⟨E9, u_2, k, hM1⟩
  ·
    have hle_u_2 : x_le u_2 u_2 := x_le.rf u_2
    have hle_u : x_le u u_2 := (hM1.1).tr hle_u_2
    refine ⟨some (.int 0), u_2, ⟨(0 : Int32), rfl, k⟩, hle_u, ?_⟩
    intro p e s m args below meth c A H locs ls F htab hw hl
    obtain ⟨⟨hx, hb, hml, hown, hts⟩, hr, hlocks, hmn⟩ := id F
    refine lv_aload_n hx hb d_L_quantify_0 rfl (lv_at hl 0 rfl) ?_
    refine lv_iload_n hx hb d_L_quantify_1 rfl (lv_at hl 1 rfl) ?_
    refine lv_iload_n hx hb d_L_quantify_2 rfl (lv_at hl 2 rfl) ?_
    refine lv_iload_n hx hb d_L_quantify_3 rfl (lv_at hl 3 rfl) ?_
    refine lv_iload hx hb d_L_quantify_4 (lv_at hl 4 rfl) ?_
    refine xr_cV (As := [.int x1, .int x2, .int x3, .int x4]) (rest := []) ⟨hx, hb, hml, hown, hts⟩ hw hM1 hle_u_2 (fun _ _ => ⟨callB_of 4 hts (xgood w_706) rfl rfl rfl (hts _ (xm w_1)) (hts _ (xm w_703)) ⟨by decide, by decide, by decide +kernel⟩ ⟨Nat.le_of_ble_eq_true rfl, Nat.le_of_ble_eq_true rfl⟩, (hts _ (xm w_704)), (hts _ (xm w_705))⟩) (qc := (R_H, F_H, 2)) rfl rfl h2 rfl hl.1 rfl (Nat.le_of_ble_eq_true rfl) d_L_quantify_6 (fun H locs hw => ?_)
    refine W.eq (g2 := F0 m 9 ls []) rfl ?_
    refine lv_goto (tgt := 20) hx hb d_L_quantify_9 (by decide) ?_
    refine lv_iconst (v := 0) hx hb d_L_quantify_20 (by decide) ?_
    exact xr_iret F rfl hw d_L_quantify_21
  ·
    rcases k with ⟨rfl, k⟩ | ⟨rfl, k⟩
    ·
      have hle_u_2 : x_le u_2 u_2 := x_le.rf u_2
      have hle_u : x_le u u_2 := (hM1.1).tr hle_u_2
      refine ⟨some (.int 1), u_2, ⟨(1 : Int32), rfl, k⟩, hle_u, ?_⟩
      intro p e s m args below meth c A H locs ls F htab hw hl
      obtain ⟨⟨hx, hb, hml, hown, hts⟩, hr, hlocks, hmn⟩ := id F
      refine lv_aload_n hx hb d_L_quantify_0 rfl (lv_at hl 0 rfl) ?_
      refine lv_iload_n hx hb d_L_quantify_1 rfl (lv_at hl 1 rfl) ?_
      refine lv_iload_n hx hb d_L_quantify_2 rfl (lv_at hl 2 rfl) ?_
      refine lv_iload_n hx hb d_L_quantify_3 rfl (lv_at hl 3 rfl) ?_
      refine lv_iload hx hb d_L_quantify_4 (lv_at hl 4 rfl) ?_
      refine xt_cV (As := [.int x1, .int x2, .int x3, .int x4]) (rest := []) ⟨hx, hb, hml, hown, hts⟩ hw hM1 hle_u_2 (fun _ _ => ⟨callB_of 4 hts (xgood w_706) rfl rfl rfl (hts _ (xm w_1)) (hts _ (xm w_703)) ⟨by decide, by decide, by decide +kernel⟩ ⟨Nat.le_of_ble_eq_true rfl, Nat.le_of_ble_eq_true rfl⟩, (hts _ (xm w_704)), (hts _ (xm w_705))⟩) (qc := (R_H, F_H, 2)) rfl rfl h2 rfl hl.1 rfl (Nat.le_of_ble_eq_true rfl) d_L_quantify_6 (fun q9 ce H locs T9 hw hce hcv hcl hT X9 => ?_)
      refine xt_catch (name := "java/lang/IndexOutOfBoundsException") hown [] ⟨0, 9, 12, 13⟩ [⟨0, 9, 16, 15⟩] (htab.trans rfl) (fun z9 h9 => nomatch h9) (by decide) (by decide) (hts _ (xm w_510)) (hw.2.2.2.2.2.1.cast (List.mem_of_getElem? (i := 521) (by decide +kernel)) _) hce hcv hcl hT X9 ?_
      refine W.eq (g2 := F0 m 12 ls [.ref q9]) rfl ?_
      refine lv_astore (lv' := [(5, .ref q9), (0, .ref x0), (1, .int x1), (2, .int x2), (3, .int x3), (4, .int x4)]) hx hb d_L_quantify_12 hl (by decide) rfl (fun ls hl => ?_)
      refine lv_iconst (v := 1) hx hb d_L_quantify_14 (by decide) ?_
      exact xr_iret F rfl hw d_L_quantify_15
    ·
      have hle_u_2 : x_le u_2 u_2 := x_le.rf u_2
      have hle_u : x_le u u_2 := (hM1.1).tr hle_u_2
      refine ⟨some (.int 2), u_2, ⟨(2 : Int32), rfl, k⟩, hle_u, ?_⟩
      intro p e s m args below meth c A H locs ls F htab hw hl
      obtain ⟨⟨hx, hb, hml, hown, hts⟩, hr, hlocks, hmn⟩ := id F
      refine lv_aload_n hx hb d_L_quantify_0 rfl (lv_at hl 0 rfl) ?_
      refine lv_iload_n hx hb d_L_quantify_1 rfl (lv_at hl 1 rfl) ?_
      refine lv_iload_n hx hb d_L_quantify_2 rfl (lv_at hl 2 rfl) ?_
      refine lv_iload_n hx hb d_L_quantify_3 rfl (lv_at hl 3 rfl) ?_
      refine lv_iload hx hb d_L_quantify_4 (lv_at hl 4 rfl) ?_
      refine xt_cV (As := [.int x1, .int x2, .int x3, .int x4]) (rest := []) ⟨hx, hb, hml, hown, hts⟩ hw hM1 hle_u_2 (fun _ _ => ⟨callB_of 4 hts (xgood w_706) rfl rfl rfl (hts _ (xm w_1)) (hts _ (xm w_703)) ⟨by decide, by decide, by decide +kernel⟩ ⟨Nat.le_of_ble_eq_true rfl, Nat.le_of_ble_eq_true rfl⟩, (hts _ (xm w_704)), (hts _ (xm w_705))⟩) (qc := (R_H, F_H, 2)) rfl rfl h2 rfl hl.1 rfl (Nat.le_of_ble_eq_true rfl) d_L_quantify_6 (fun q9 ce H locs T9 hw hce hcv hcl hT X9 => ?_)
      refine xt_catch (name := "java/lang/IllegalArgumentException") hown [⟨0, 9, 12, 13⟩] ⟨0, 9, 16, 15⟩ [] (htab.trans rfl) (fun z9 h9 => by cases List.mem_singleton.mp h9; exact ⟨by decide, "java/lang/IndexOutOfBoundsException", (hts _ (xm w_510)), hw.2.2.2.2.2.1.nocast (by decide +kernel)⟩) (by decide) (by decide) (hts _ (xm w_511)) (hw.2.2.2.2.2.1.cast (List.mem_of_getElem? (i := 591) (by decide +kernel)) _) hce hcv hcl hT X9 ?_
      refine W.eq (g2 := F0 m 16 ls [.ref q9]) rfl ?_
      refine lv_astore (lv' := [(5, .ref q9), (0, .ref x0), (1, .int x1), (2, .int x2), (3, .int x3), (4, .int x4)]) hx hb d_L_quantify_16 hl (by decide) rfl (fun ls hl => ?_)
      refine lv_iconst (v := 2) hx hb d_L_quantify_18 (by decide) ?_
      exact xr_iret F rfl hw d_L_quantify_19
set_option maxRecDepth 100000 in
set_option maxHeartbeats 4000000 in
theorem c_L_meet (l : Launch) (Z : XZ) (x0 : Nat) (x1 : Int32) (x2 : Int32) (x3 : Int32) (x4 : Int32) (u : PS) (K : Int32 → PS → Prop) (k : p_L_meet x0 x1 x2 x3 x4 u K) : ∃ (rv : Option Value) (u1 : PS), (kI K) rv u1 ∧ XMet l Z i_L_meet [.ref x0, .int x1, .int x2, .int x3, .int x4] u rv u1 := by
  refine x_meth (by decide) rfl (Nat.le_of_ble_eq_true rfl) ?_
  show XNh hh_L_meet l Z i_L_meet u (kI K) u 0 [(0, .ref x0), (1, .int x1), (2, .int x2), (3, .int x3), (4, .int x4)] []
  unfold p_L_meet at k
  obtain ⟨h2, k⟩ := k
  rcases c_H_meet l Z x0 x1 x2 x3 x4 u _ _ k with ⟨_, u_2, ⟨rfl, k⟩, hM1⟩ | ⟨E9, u_2, k, hM1⟩
  ·
    have hle_u_2 : x_le u_2 u_2 := x_le.rf u_2
    have hle_u : x_le u u_2 := (hM1.1).tr hle_u_2
    refine ⟨some (.int 0), u_2, ⟨(0 : Int32), rfl, k⟩, hle_u, ?_⟩
    intro p e s m args below meth c A H locs ls F htab hw hl
    obtain ⟨⟨hx, hb, hml, hown, hts⟩, hr, hlocks, hmn⟩ := id F
    refine lv_aload_n hx hb d_L_meet_0 rfl (lv_at hl 0 rfl) ?_
    refine lv_iload_n hx hb d_L_meet_1 rfl (lv_at hl 1 rfl) ?_
    refine lv_iload_n hx hb d_L_meet_2 rfl (lv_at hl 2 rfl) ?_
    refine lv_iload_n hx hb d_L_meet_3 rfl (lv_at hl 3 rfl) ?_
    refine lv_iload hx hb d_L_meet_4 (lv_at hl 4 rfl) ?_
    refine xr_cV (As := [.int x1, .int x2, .int x3, .int x4]) (rest := []) ⟨hx, hb, hml, hown, hts⟩ hw hM1 hle_u_2 (fun _ _ => ⟨callB_of 4 hts (xgood w_724) rfl rfl rfl (hts _ (xm w_1)) (hts _ (xm w_721)) ⟨by decide, by decide, by decide +kernel⟩ ⟨Nat.le_of_ble_eq_true rfl, Nat.le_of_ble_eq_true rfl⟩, (hts _ (xm w_722)), (hts _ (xm w_723))⟩) (qc := (R_H, F_H, 2)) rfl rfl h2 rfl hl.1 rfl (Nat.le_of_ble_eq_true rfl) d_L_meet_6 (fun H locs hw => ?_)
    refine W.eq (g2 := F0 m 9 ls []) rfl ?_
    refine lv_goto (tgt := 20) hx hb d_L_meet_9 (by decide) ?_
    refine lv_iconst (v := 0) hx hb d_L_meet_20 (by decide) ?_
    exact xr_iret F rfl hw d_L_meet_21
  ·
    rcases k with ⟨rfl, k⟩ | ⟨rfl, k⟩
    ·
      have hle_u_2 : x_le u_2 u_2 := x_le.rf u_2
      have hle_u : x_le u u_2 := (hM1.1).tr hle_u_2
      refine ⟨some (.int 1), u_2, ⟨(1 : Int32), rfl, k⟩, hle_u, ?_⟩
      intro p e s m args below meth c A H locs ls F htab hw hl
      obtain ⟨⟨hx, hb, hml, hown, hts⟩, hr, hlocks, hmn⟩ := id F
      refine lv_aload_n hx hb d_L_meet_0 rfl (lv_at hl 0 rfl) ?_
      refine lv_iload_n hx hb d_L_meet_1 rfl (lv_at hl 1 rfl) ?_
      refine lv_iload_n hx hb d_L_meet_2 rfl (lv_at hl 2 rfl) ?_
      refine lv_iload_n hx hb d_L_meet_3 rfl (lv_at hl 3 rfl) ?_
      refine lv_iload hx hb d_L_meet_4 (lv_at hl 4 rfl) ?_
      refine xt_cV (As := [.int x1, .int x2, .int x3, .int x4]) (rest := []) ⟨hx, hb, hml, hown, hts⟩ hw hM1 hle_u_2 (fun _ _ => ⟨callB_of 4 hts (xgood w_724) rfl rfl rfl (hts _ (xm w_1)) (hts _ (xm w_721)) ⟨by decide, by decide, by decide +kernel⟩ ⟨Nat.le_of_ble_eq_true rfl, Nat.le_of_ble_eq_true rfl⟩, (hts _ (xm w_722)), (hts _ (xm w_723))⟩) (qc := (R_H, F_H, 2)) rfl rfl h2 rfl hl.1 rfl (Nat.le_of_ble_eq_true rfl) d_L_meet_6 (fun q9 ce H locs T9 hw hce hcv hcl hT X9 => ?_)
      refine xt_catch (name := "java/lang/IndexOutOfBoundsException") hown [] ⟨0, 9, 12, 13⟩ [⟨0, 9, 16, 15⟩] (htab.trans rfl) (fun z9 h9 => nomatch h9) (by decide) (by decide) (hts _ (xm w_510)) (hw.2.2.2.2.2.1.cast (List.mem_of_getElem? (i := 521) (by decide +kernel)) _) hce hcv hcl hT X9 ?_
      refine W.eq (g2 := F0 m 12 ls [.ref q9]) rfl ?_
      refine lv_astore (lv' := [(5, .ref q9), (0, .ref x0), (1, .int x1), (2, .int x2), (3, .int x3), (4, .int x4)]) hx hb d_L_meet_12 hl (by decide) rfl (fun ls hl => ?_)
      refine lv_iconst (v := 1) hx hb d_L_meet_14 (by decide) ?_
      exact xr_iret F rfl hw d_L_meet_15
    ·
      have hle_u_2 : x_le u_2 u_2 := x_le.rf u_2
      have hle_u : x_le u u_2 := (hM1.1).tr hle_u_2
      refine ⟨some (.int 2), u_2, ⟨(2 : Int32), rfl, k⟩, hle_u, ?_⟩
      intro p e s m args below meth c A H locs ls F htab hw hl
      obtain ⟨⟨hx, hb, hml, hown, hts⟩, hr, hlocks, hmn⟩ := id F
      refine lv_aload_n hx hb d_L_meet_0 rfl (lv_at hl 0 rfl) ?_
      refine lv_iload_n hx hb d_L_meet_1 rfl (lv_at hl 1 rfl) ?_
      refine lv_iload_n hx hb d_L_meet_2 rfl (lv_at hl 2 rfl) ?_
      refine lv_iload_n hx hb d_L_meet_3 rfl (lv_at hl 3 rfl) ?_
      refine lv_iload hx hb d_L_meet_4 (lv_at hl 4 rfl) ?_
      refine xt_cV (As := [.int x1, .int x2, .int x3, .int x4]) (rest := []) ⟨hx, hb, hml, hown, hts⟩ hw hM1 hle_u_2 (fun _ _ => ⟨callB_of 4 hts (xgood w_724) rfl rfl rfl (hts _ (xm w_1)) (hts _ (xm w_721)) ⟨by decide, by decide, by decide +kernel⟩ ⟨Nat.le_of_ble_eq_true rfl, Nat.le_of_ble_eq_true rfl⟩, (hts _ (xm w_722)), (hts _ (xm w_723))⟩) (qc := (R_H, F_H, 2)) rfl rfl h2 rfl hl.1 rfl (Nat.le_of_ble_eq_true rfl) d_L_meet_6 (fun q9 ce H locs T9 hw hce hcv hcl hT X9 => ?_)
      refine xt_catch (name := "java/lang/IllegalArgumentException") hown [⟨0, 9, 12, 13⟩] ⟨0, 9, 16, 15⟩ [] (htab.trans rfl) (fun z9 h9 => by cases List.mem_singleton.mp h9; exact ⟨by decide, "java/lang/IndexOutOfBoundsException", (hts _ (xm w_510)), hw.2.2.2.2.2.1.nocast (by decide +kernel)⟩) (by decide) (by decide) (hts _ (xm w_511)) (hw.2.2.2.2.2.1.cast (List.mem_of_getElem? (i := 591) (by decide +kernel)) _) hce hcv hcl hT X9 ?_
      refine W.eq (g2 := F0 m 16 ls [.ref q9]) rfl ?_
      refine lv_astore (lv' := [(5, .ref q9), (0, .ref x0), (1, .int x1), (2, .int x2), (3, .int x3), (4, .int x4)]) hx hb d_L_meet_16 hl (by decide) rfl (fun ls hl => ?_)
      refine lv_iconst (v := 2) hx hb d_L_meet_18 (by decide) ?_
      exact xr_iret F rfl hw d_L_meet_19
set_option maxRecDepth 100000 in
set_option maxHeartbeats 4000000 in
theorem c_L_move (l : Launch) (Z : XZ) (x0 : Nat) (x1 : Int32) (x2 : Int32) (x3 : Nat) (u : PS) (K : Int32 → PS → Prop) (k : p_L_move x0 x1 x2 x3 u K) : ∃ (rv : Option Value) (u1 : PS), (kI K) rv u1 ∧ XMet l Z i_L_move [.ref x0, .int x1, .int x2, .ref x3] u rv u1 := by
  refine x_meth (by decide) rfl (Nat.le_of_ble_eq_true rfl) ?_
  show XNh hh_L_move l Z i_L_move u (kI K) u 0 [(0, .ref x0), (1, .int x1), (2, .int x2), (3, .ref x3)] []
  unfold p_L_move at k
  obtain ⟨h2, k⟩ := k
  rcases c_H_move l Z x0 x1 x2 u _ _ k with ⟨_, u_4, ⟨r_5, rfl, k⟩, hM1⟩ | ⟨E9, u_4, k, hM1⟩
  ·
    obtain ⟨u_6, h3, k⟩ := k
    have hle_u_6 : x_le u_6 u_6 := x_le.rf u_6
    have hle_u_4 : x_le u_4 u_6 := (h3.le).tr hle_u_6
    have hle_u : x_le u u_6 := (hM1.1).tr hle_u_4
    refine ⟨some (.int 0), u_6, ⟨(0 : Int32), rfl, k⟩, hle_u, ?_⟩
    intro p e s m args below meth c A H locs ls F htab hw hl
    obtain ⟨⟨hx, hb, hml, hown, hts⟩, hr, hlocks, hmn⟩ := id F
    refine lv_aload_n hx hb d_L_move_0 rfl (lv_at hl 3 rfl) ?_
    refine lv_iconst (v := 0) hx hb d_L_move_1 (by decide) ?_
    refine lv_aload_n hx hb d_L_move_2 rfl (lv_at hl 0 rfl) ?_
    refine lv_iload_n hx hb d_L_move_3 rfl (lv_at hl 1 rfl) ?_
    refine lv_iload_n hx hb d_L_move_4 rfl (lv_at hl 2 rfl) ?_
    refine xr_cV (As := [.int x1, .int x2]) (rest := [.int 0, .ref x3]) ⟨hx, hb, hml, hown, hts⟩ hw hM1 hle_u_4 (fun _ _ => ⟨callB_of 2 hts (xgood w_731) rfl rfl rfl (hts _ (xm w_1)) (hts _ (xm w_728)) ⟨by decide, by decide, by decide +kernel⟩ ⟨Nat.le_of_ble_eq_true rfl, Nat.le_of_ble_eq_true rfl⟩, (hts _ (xm w_729)), (hts _ (xm w_730))⟩) (qc := (R_H, F_H, 2)) rfl rfl h2 rfl hl.1 rfl (Nat.le_of_ble_eq_true rfl) d_L_move_5 (fun H locs hw => ?_)
    refine W.eq (g2 := F0 m 8 ls [.int r_5, .int 0, .ref x3]) rfl ?_
    refine lv_i2l hx hb d_L_move_8 rfl ?_
    refine xr_last hx hb hw h3 d_L_move_9 (fun H locs hw => ?_)
    refine lv_goto (tgt := 17) hx hb d_L_move_10 (by decide) ?_
    refine lv_iconst (v := 0) hx hb d_L_move_17 (by decide) ?_
    exact xr_iret F rfl hw d_L_move_18
  ·
    rcases k with ⟨rfl, k⟩
    have hle_u_4 : x_le u_4 u_4 := x_le.rf u_4
    have hle_u : x_le u u_4 := (hM1.1).tr hle_u_4
    refine ⟨some (.int 1), u_4, ⟨(1 : Int32), rfl, k⟩, hle_u, ?_⟩
    intro p e s m args below meth c A H locs ls F htab hw hl
    obtain ⟨⟨hx, hb, hml, hown, hts⟩, hr, hlocks, hmn⟩ := id F
    refine lv_aload_n hx hb d_L_move_0 rfl (lv_at hl 3 rfl) ?_
    refine lv_iconst (v := 0) hx hb d_L_move_1 (by decide) ?_
    refine lv_aload_n hx hb d_L_move_2 rfl (lv_at hl 0 rfl) ?_
    refine lv_iload_n hx hb d_L_move_3 rfl (lv_at hl 1 rfl) ?_
    refine lv_iload_n hx hb d_L_move_4 rfl (lv_at hl 2 rfl) ?_
    refine xt_cV (As := [.int x1, .int x2]) (rest := [.int 0, .ref x3]) ⟨hx, hb, hml, hown, hts⟩ hw hM1 hle_u_4 (fun _ _ => ⟨callB_of 2 hts (xgood w_731) rfl rfl rfl (hts _ (xm w_1)) (hts _ (xm w_728)) ⟨by decide, by decide, by decide +kernel⟩ ⟨Nat.le_of_ble_eq_true rfl, Nat.le_of_ble_eq_true rfl⟩, (hts _ (xm w_729)), (hts _ (xm w_730))⟩) (qc := (R_H, F_H, 2)) rfl rfl h2 rfl hl.1 rfl (Nat.le_of_ble_eq_true rfl) d_L_move_5 (fun q9 ce H locs T9 hw hce hcv hcl hT X9 => ?_)
    refine xt_catch (name := "java/lang/IllegalArgumentException") hown [] ⟨0, 10, 13, 15⟩ [] (htab.trans rfl) (fun z9 h9 => nomatch h9) (by decide) (by decide) (hts _ (xm w_511)) (hw.2.2.2.2.2.1.cast (List.mem_of_getElem? (i := 591) (by decide +kernel)) _) hce hcv hcl hT X9 ?_
    refine W.eq (g2 := F0 m 13 ls [.ref q9]) rfl ?_
    refine lv_astore (lv' := [(4, .ref q9), (0, .ref x0), (1, .int x1), (2, .int x2), (3, .ref x3)]) hx hb d_L_move_13 hl (by decide) rfl (fun ls hl => ?_)
    refine lv_iconst (v := 1) hx hb d_L_move_15 (by decide) ?_
    exact xr_iret F rfl hw d_L_move_16
set_option maxRecDepth 100000 in
set_option maxHeartbeats 4000000 in
theorem c_L_sift (l : Launch) (Z : XZ) (x0 : Nat) (x1 : Int32) (x2 : Nat) (u : PS) (K : Int32 → PS → Prop) (k : p_L_sift x0 x1 x2 u K) : ∃ (rv : Option Value) (u1 : PS), (kI K) rv u1 ∧ XMet l Z i_L_sift [.ref x0, .int x1, .ref x2] u rv u1 := by
  refine x_meth (by decide) rfl (Nat.le_of_ble_eq_true rfl) ?_
  show XNh hh_L_sift l Z i_L_sift u (kI K) u 0 [(0, .ref x0), (1, .int x1), (2, .ref x2)] []
  unfold p_L_sift at k
  obtain ⟨h2, k⟩ := k
  rcases c_H_sift l Z x0 x1 u _ _ k with ⟨_, u_4, ⟨r_5, rfl, k⟩, hM1⟩ | ⟨E9, u_4, k, hM1⟩
  ·
    obtain ⟨u_6, h3, k⟩ := k
    have hle_u_6 : x_le u_6 u_6 := x_le.rf u_6
    have hle_u_4 : x_le u_4 u_6 := (h3.le).tr hle_u_6
    have hle_u : x_le u u_6 := (hM1.1).tr hle_u_4
    refine ⟨some (.int 0), u_6, ⟨(0 : Int32), rfl, k⟩, hle_u, ?_⟩
    intro p e s m args below meth c A H locs ls F htab hw hl
    obtain ⟨⟨hx, hb, hml, hown, hts⟩, hr, hlocks, hmn⟩ := id F
    refine lv_aload_n hx hb d_L_sift_0 rfl (lv_at hl 2 rfl) ?_
    refine lv_iconst (v := 0) hx hb d_L_sift_1 (by decide) ?_
    refine lv_aload_n hx hb d_L_sift_2 rfl (lv_at hl 0 rfl) ?_
    refine lv_iload_n hx hb d_L_sift_3 rfl (lv_at hl 1 rfl) ?_
    refine xr_cV (As := [.int x1]) (rest := [.int 0, .ref x2]) ⟨hx, hb, hml, hown, hts⟩ hw hM1 hle_u_4 (fun _ _ => ⟨callB_of 1 hts (xgood w_742) rfl rfl rfl (hts _ (xm w_1)) (hts _ (xm w_739)) ⟨by decide, by decide, by decide +kernel⟩ ⟨Nat.le_of_ble_eq_true rfl, Nat.le_of_ble_eq_true rfl⟩, (hts _ (xm w_740)), (hts _ (xm w_741))⟩) (qc := (R_H, F_H, 2)) rfl rfl h2 rfl hl.1 rfl (Nat.le_of_ble_eq_true rfl) d_L_sift_4 (fun H locs hw => ?_)
    refine W.eq (g2 := F0 m 7 ls [.int r_5, .int 0, .ref x2]) rfl ?_
    refine lv_i2l hx hb d_L_sift_7 rfl ?_
    refine xr_last hx hb hw h3 d_L_sift_8 (fun H locs hw => ?_)
    refine lv_goto (tgt := 15) hx hb d_L_sift_9 (by decide) ?_
    refine lv_iconst (v := 0) hx hb d_L_sift_15 (by decide) ?_
    exact xr_iret F rfl hw d_L_sift_16
  ·
    rcases k with ⟨rfl, k⟩
    have hle_u_4 : x_le u_4 u_4 := x_le.rf u_4
    have hle_u : x_le u u_4 := (hM1.1).tr hle_u_4
    refine ⟨some (.int 1), u_4, ⟨(1 : Int32), rfl, k⟩, hle_u, ?_⟩
    intro p e s m args below meth c A H locs ls F htab hw hl
    obtain ⟨⟨hx, hb, hml, hown, hts⟩, hr, hlocks, hmn⟩ := id F
    refine lv_aload_n hx hb d_L_sift_0 rfl (lv_at hl 2 rfl) ?_
    refine lv_iconst (v := 0) hx hb d_L_sift_1 (by decide) ?_
    refine lv_aload_n hx hb d_L_sift_2 rfl (lv_at hl 0 rfl) ?_
    refine lv_iload_n hx hb d_L_sift_3 rfl (lv_at hl 1 rfl) ?_
    refine xt_cV (As := [.int x1]) (rest := [.int 0, .ref x2]) ⟨hx, hb, hml, hown, hts⟩ hw hM1 hle_u_4 (fun _ _ => ⟨callB_of 1 hts (xgood w_742) rfl rfl rfl (hts _ (xm w_1)) (hts _ (xm w_739)) ⟨by decide, by decide, by decide +kernel⟩ ⟨Nat.le_of_ble_eq_true rfl, Nat.le_of_ble_eq_true rfl⟩, (hts _ (xm w_740)), (hts _ (xm w_741))⟩) (qc := (R_H, F_H, 2)) rfl rfl h2 rfl hl.1 rfl (Nat.le_of_ble_eq_true rfl) d_L_sift_4 (fun q9 ce H locs T9 hw hce hcv hcl hT X9 => ?_)
    refine xt_catch (name := "java/lang/IllegalArgumentException") hown [] ⟨0, 9, 12, 15⟩ [] (htab.trans rfl) (fun z9 h9 => nomatch h9) (by decide) (by decide) (hts _ (xm w_511)) (hw.2.2.2.2.2.1.cast (List.mem_of_getElem? (i := 591) (by decide +kernel)) _) hce hcv hcl hT X9 ?_
    refine W.eq (g2 := F0 m 12 ls [.ref q9]) rfl ?_
    refine lv_astore_n (lv' := [(3, .ref q9), (0, .ref x0), (1, .int x1), (2, .ref x2)]) hx hb d_L_sift_12 rfl hl (by decide) rfl (fun ls hl => ?_)
    refine lv_iconst (v := 1) hx hb d_L_sift_13 (by decide) ?_
    exact xr_iret F rfl hw d_L_sift_14
set_option maxRecDepth 100000 in
set_option maxHeartbeats 4000000 in
theorem c_L_order (l : Launch) (Z : XZ) (x0 : Nat) (x1 : Int32) (x2 : Nat) (u : PS) (K : Int32 → PS → Prop) (k : p_L_order x0 x1 x2 u K) : ∃ (rv : Option Value) (u1 : PS), (kI K) rv u1 ∧ XMet l Z i_L_order [.ref x0, .int x1, .ref x2] u rv u1 := by
  refine x_meth (by decide) rfl (Nat.le_of_ble_eq_true rfl) ?_
  show XNh hh_L_order l Z i_L_order u (kI K) u 0 [(0, .ref x0), (1, .int x1), (2, .ref x2)] []
  unfold p_L_order at k
  obtain ⟨h2, k⟩ := k
  rcases c_H_order l Z x0 x1 u _ _ k with ⟨_, u_4, ⟨r_5, rfl, k⟩, hM1⟩ | ⟨E9, u_4, k, hM1⟩
  ·
    obtain ⟨u_6, h3, k⟩ := k
    have hle_u_6 : x_le u_6 u_6 := x_le.rf u_6
    have hle_u_4 : x_le u_4 u_6 := (h3.le).tr hle_u_6
    have hle_u : x_le u u_6 := (hM1.1).tr hle_u_4
    refine ⟨some (.int 0), u_6, ⟨(0 : Int32), rfl, k⟩, hle_u, ?_⟩
    intro p e s m args below meth c A H locs ls F htab hw hl
    obtain ⟨⟨hx, hb, hml, hown, hts⟩, hr, hlocks, hmn⟩ := id F
    refine lv_aload_n hx hb d_L_order_0 rfl (lv_at hl 2 rfl) ?_
    refine lv_iconst (v := 0) hx hb d_L_order_1 (by decide) ?_
    refine lv_aload_n hx hb d_L_order_2 rfl (lv_at hl 0 rfl) ?_
    refine lv_iload_n hx hb d_L_order_3 rfl (lv_at hl 1 rfl) ?_
    refine xr_cV (As := [.int x1]) (rest := [.int 0, .ref x2]) ⟨hx, hb, hml, hown, hts⟩ hw hM1 hle_u_4 (fun _ _ => ⟨callB_of 1 hts (xgood w_749) rfl rfl rfl (hts _ (xm w_1)) (hts _ (xm w_746)) ⟨by decide, by decide, by decide +kernel⟩ ⟨Nat.le_of_ble_eq_true rfl, Nat.le_of_ble_eq_true rfl⟩, (hts _ (xm w_747)), (hts _ (xm w_748))⟩) (qc := (R_H, F_H, 2)) rfl rfl h2 rfl hl.1 rfl (Nat.le_of_ble_eq_true rfl) d_L_order_4 (fun H locs hw => ?_)
    refine W.eq (g2 := F0 m 7 ls [.int r_5, .int 0, .ref x2]) rfl ?_
    refine lv_i2l hx hb d_L_order_7 rfl ?_
    refine xr_last hx hb hw h3 d_L_order_8 (fun H locs hw => ?_)
    refine lv_goto (tgt := 15) hx hb d_L_order_9 (by decide) ?_
    refine lv_iconst (v := 0) hx hb d_L_order_15 (by decide) ?_
    exact xr_iret F rfl hw d_L_order_16
  ·
    rcases k with ⟨rfl, k⟩
    have hle_u_4 : x_le u_4 u_4 := x_le.rf u_4
    have hle_u : x_le u u_4 := (hM1.1).tr hle_u_4
    refine ⟨some (.int 1), u_4, ⟨(1 : Int32), rfl, k⟩, hle_u, ?_⟩
    intro p e s m args below meth c A H locs ls F htab hw hl
    obtain ⟨⟨hx, hb, hml, hown, hts⟩, hr, hlocks, hmn⟩ := id F
    refine lv_aload_n hx hb d_L_order_0 rfl (lv_at hl 2 rfl) ?_
    refine lv_iconst (v := 0) hx hb d_L_order_1 (by decide) ?_
    refine lv_aload_n hx hb d_L_order_2 rfl (lv_at hl 0 rfl) ?_
    refine lv_iload_n hx hb d_L_order_3 rfl (lv_at hl 1 rfl) ?_
    refine xt_cV (As := [.int x1]) (rest := [.int 0, .ref x2]) ⟨hx, hb, hml, hown, hts⟩ hw hM1 hle_u_4 (fun _ _ => ⟨callB_of 1 hts (xgood w_749) rfl rfl rfl (hts _ (xm w_1)) (hts _ (xm w_746)) ⟨by decide, by decide, by decide +kernel⟩ ⟨Nat.le_of_ble_eq_true rfl, Nat.le_of_ble_eq_true rfl⟩, (hts _ (xm w_747)), (hts _ (xm w_748))⟩) (qc := (R_H, F_H, 2)) rfl rfl h2 rfl hl.1 rfl (Nat.le_of_ble_eq_true rfl) d_L_order_4 (fun q9 ce H locs T9 hw hce hcv hcl hT X9 => ?_)
    refine xt_catch (name := "java/lang/IndexOutOfBoundsException") hown [] ⟨0, 9, 12, 13⟩ [] (htab.trans rfl) (fun z9 h9 => nomatch h9) (by decide) (by decide) (hts _ (xm w_510)) (hw.2.2.2.2.2.1.cast (List.mem_of_getElem? (i := 521) (by decide +kernel)) _) hce hcv hcl hT X9 ?_
    refine W.eq (g2 := F0 m 12 ls [.ref q9]) rfl ?_
    refine lv_astore_n (lv' := [(3, .ref q9), (0, .ref x0), (1, .int x1), (2, .ref x2)]) hx hb d_L_order_12 rfl hl (by decide) rfl (fun ls hl => ?_)
    refine lv_iconst (v := 1) hx hb d_L_order_13 (by decide) ?_
    exact xr_iret F rfl hw d_L_order_14
set_option maxRecDepth 100000 in
set_option maxHeartbeats 4000000 in
theorem c_L_size (l : Launch) (Z : XZ) (x0 : Nat) (x1 : Int32) (x2 : Nat) (u : PS) (K : Int32 → PS → Prop) (k : p_L_size x0 x1 x2 u K) : ∃ (rv : Option Value) (u1 : PS), (kI K) rv u1 ∧ XMet l Z i_L_size [.ref x0, .int x1, .ref x2] u rv u1 := by
  refine x_meth (by decide) rfl (Nat.le_of_ble_eq_true rfl) ?_
  show XNh hh_L_size l Z i_L_size u (kI K) u 0 [(0, .ref x0), (1, .int x1), (2, .ref x2)] []
  unfold p_L_size at k
  obtain ⟨h2, k⟩ := k
  rcases c_H_size l Z x0 x1 u _ _ k with ⟨_, u_4, ⟨r_5, rfl, k⟩, hM1⟩ | ⟨E9, u_4, k, hM1⟩
  ·
    obtain ⟨u_6, h3, k⟩ := k
    have hle_u_6 : x_le u_6 u_6 := x_le.rf u_6
    have hle_u_4 : x_le u_4 u_6 := (h3.le).tr hle_u_6
    have hle_u : x_le u u_6 := (hM1.1).tr hle_u_4
    refine ⟨some (.int 0), u_6, ⟨(0 : Int32), rfl, k⟩, hle_u, ?_⟩
    intro p e s m args below meth c A H locs ls F htab hw hl
    obtain ⟨⟨hx, hb, hml, hown, hts⟩, hr, hlocks, hmn⟩ := id F
    refine lv_aload_n hx hb d_L_size_0 rfl (lv_at hl 2 rfl) ?_
    refine lv_iconst (v := 0) hx hb d_L_size_1 (by decide) ?_
    refine lv_aload_n hx hb d_L_size_2 rfl (lv_at hl 0 rfl) ?_
    refine lv_iload_n hx hb d_L_size_3 rfl (lv_at hl 1 rfl) ?_
    refine xr_cV (As := [.int x1]) (rest := [.int 0, .ref x2]) ⟨hx, hb, hml, hown, hts⟩ hw hM1 hle_u_4 (fun _ _ => ⟨callB_of 1 hts (xgood w_761) rfl rfl rfl (hts _ (xm w_1)) (hts _ (xm w_758)) ⟨by decide, by decide, by decide +kernel⟩ ⟨Nat.le_of_ble_eq_true rfl, Nat.le_of_ble_eq_true rfl⟩, (hts _ (xm w_759)), (hts _ (xm w_760))⟩) (qc := (R_H, F_H, 2)) rfl rfl h2 rfl hl.1 rfl (Nat.le_of_ble_eq_true rfl) d_L_size_4 (fun H locs hw => ?_)
    refine W.eq (g2 := F0 m 7 ls [.int r_5, .int 0, .ref x2]) rfl ?_
    refine lv_i2l hx hb d_L_size_7 rfl ?_
    refine xr_last hx hb hw h3 d_L_size_8 (fun H locs hw => ?_)
    refine lv_goto (tgt := 15) hx hb d_L_size_9 (by decide) ?_
    refine lv_iconst (v := 0) hx hb d_L_size_15 (by decide) ?_
    exact xr_iret F rfl hw d_L_size_16
  ·
    rcases k with ⟨rfl, k⟩
    have hle_u_4 : x_le u_4 u_4 := x_le.rf u_4
    have hle_u : x_le u u_4 := (hM1.1).tr hle_u_4
    refine ⟨some (.int 1), u_4, ⟨(1 : Int32), rfl, k⟩, hle_u, ?_⟩
    intro p e s m args below meth c A H locs ls F htab hw hl
    obtain ⟨⟨hx, hb, hml, hown, hts⟩, hr, hlocks, hmn⟩ := id F
    refine lv_aload_n hx hb d_L_size_0 rfl (lv_at hl 2 rfl) ?_
    refine lv_iconst (v := 0) hx hb d_L_size_1 (by decide) ?_
    refine lv_aload_n hx hb d_L_size_2 rfl (lv_at hl 0 rfl) ?_
    refine lv_iload_n hx hb d_L_size_3 rfl (lv_at hl 1 rfl) ?_
    refine xt_cV (As := [.int x1]) (rest := [.int 0, .ref x2]) ⟨hx, hb, hml, hown, hts⟩ hw hM1 hle_u_4 (fun _ _ => ⟨callB_of 1 hts (xgood w_761) rfl rfl rfl (hts _ (xm w_1)) (hts _ (xm w_758)) ⟨by decide, by decide, by decide +kernel⟩ ⟨Nat.le_of_ble_eq_true rfl, Nat.le_of_ble_eq_true rfl⟩, (hts _ (xm w_759)), (hts _ (xm w_760))⟩) (qc := (R_H, F_H, 2)) rfl rfl h2 rfl hl.1 rfl (Nat.le_of_ble_eq_true rfl) d_L_size_4 (fun q9 ce H locs T9 hw hce hcv hcl hT X9 => ?_)
    refine xt_catch (name := "java/lang/IndexOutOfBoundsException") hown [] ⟨0, 9, 12, 13⟩ [] (htab.trans rfl) (fun z9 h9 => nomatch h9) (by decide) (by decide) (hts _ (xm w_510)) (hw.2.2.2.2.2.1.cast (List.mem_of_getElem? (i := 521) (by decide +kernel)) _) hce hcv hcl hT X9 ?_
    refine W.eq (g2 := F0 m 12 ls [.ref q9]) rfl ?_
    refine lv_astore_n (lv' := [(3, .ref q9), (0, .ref x0), (1, .int x1), (2, .ref x2)]) hx hb d_L_size_12 rfl hl (by decide) rfl (fun ls hl => ?_)
    refine lv_iconst (v := 1) hx hb d_L_size_13 (by decide) ?_
    exact xr_iret F rfl hw d_L_size_14
set_option maxRecDepth 100000 in
set_option maxHeartbeats 4000000 in
theorem c_L_count (l : Launch) (Z : XZ) (x0 : Nat) (x1 : Int32) (x2 : Nat) (u : PS) (K : Int32 → PS → Prop) (k : p_L_count x0 x1 x2 u K) : ∃ (rv : Option Value) (u1 : PS), (kI K) rv u1 ∧ XMet l Z i_L_count [.ref x0, .int x1, .ref x2] u rv u1 := by
  refine x_meth (by decide) rfl (Nat.le_of_ble_eq_true rfl) ?_
  show XNh hh_L_count l Z i_L_count u (kI K) u 0 [(0, .ref x0), (1, .int x1), (2, .ref x2)] []
  unfold p_L_count at k
  obtain ⟨h2, k⟩ := k
  rcases c_H_count l Z x0 x1 u _ _ k with ⟨_, u_4, ⟨r_5, rfl, k⟩, hM1⟩ | ⟨E9, u_4, k, hM1⟩
  ·
    obtain ⟨u_6, h3, k⟩ := k
    have hle_u_6 : x_le u_6 u_6 := x_le.rf u_6
    have hle_u_4 : x_le u_4 u_6 := (h3.le).tr hle_u_6
    have hle_u : x_le u u_6 := (hM1.1).tr hle_u_4
    refine ⟨some (.int 0), u_6, ⟨(0 : Int32), rfl, k⟩, hle_u, ?_⟩
    intro p e s m args below meth c A H locs ls F htab hw hl
    obtain ⟨⟨hx, hb, hml, hown, hts⟩, hr, hlocks, hmn⟩ := id F
    refine lv_aload_n hx hb d_L_count_0 rfl (lv_at hl 2 rfl) ?_
    refine lv_iconst (v := 0) hx hb d_L_count_1 (by decide) ?_
    refine lv_aload_n hx hb d_L_count_2 rfl (lv_at hl 0 rfl) ?_
    refine lv_iload_n hx hb d_L_count_3 rfl (lv_at hl 1 rfl) ?_
    refine xr_cV (As := [.int x1]) (rest := [.int 0, .ref x2]) ⟨hx, hb, hml, hown, hts⟩ hw hM1 hle_u_4 (fun _ _ => ⟨callB_of 1 hts (xgood w_780) rfl rfl rfl (hts _ (xm w_1)) (hts _ (xm w_777)) ⟨by decide, by decide, by decide +kernel⟩ ⟨Nat.le_of_ble_eq_true rfl, Nat.le_of_ble_eq_true rfl⟩, (hts _ (xm w_778)), (hts _ (xm w_779))⟩) (qc := (R_H, F_H, 2)) rfl rfl h2 rfl hl.1 rfl (Nat.le_of_ble_eq_true rfl) d_L_count_4 (fun H locs hw => ?_)
    refine W.eq (g2 := F0 m 7 ls [.int r_5, .int 0, .ref x2]) rfl ?_
    refine lv_i2l hx hb d_L_count_7 rfl ?_
    refine xr_last hx hb hw h3 d_L_count_8 (fun H locs hw => ?_)
    refine lv_goto (tgt := 15) hx hb d_L_count_9 (by decide) ?_
    refine lv_iconst (v := 0) hx hb d_L_count_15 (by decide) ?_
    exact xr_iret F rfl hw d_L_count_16
  ·
    rcases k with ⟨rfl, k⟩
    have hle_u_4 : x_le u_4 u_4 := x_le.rf u_4
    have hle_u : x_le u u_4 := (hM1.1).tr hle_u_4
    refine ⟨some (.int 1), u_4, ⟨(1 : Int32), rfl, k⟩, hle_u, ?_⟩
    intro p e s m args below meth c A H locs ls F htab hw hl
    obtain ⟨⟨hx, hb, hml, hown, hts⟩, hr, hlocks, hmn⟩ := id F
    refine lv_aload_n hx hb d_L_count_0 rfl (lv_at hl 2 rfl) ?_
    refine lv_iconst (v := 0) hx hb d_L_count_1 (by decide) ?_
    refine lv_aload_n hx hb d_L_count_2 rfl (lv_at hl 0 rfl) ?_
    refine lv_iload_n hx hb d_L_count_3 rfl (lv_at hl 1 rfl) ?_
    refine xt_cV (As := [.int x1]) (rest := [.int 0, .ref x2]) ⟨hx, hb, hml, hown, hts⟩ hw hM1 hle_u_4 (fun _ _ => ⟨callB_of 1 hts (xgood w_780) rfl rfl rfl (hts _ (xm w_1)) (hts _ (xm w_777)) ⟨by decide, by decide, by decide +kernel⟩ ⟨Nat.le_of_ble_eq_true rfl, Nat.le_of_ble_eq_true rfl⟩, (hts _ (xm w_778)), (hts _ (xm w_779))⟩) (qc := (R_H, F_H, 2)) rfl rfl h2 rfl hl.1 rfl (Nat.le_of_ble_eq_true rfl) d_L_count_4 (fun q9 ce H locs T9 hw hce hcv hcl hT X9 => ?_)
    refine xt_catch (name := "java/lang/IndexOutOfBoundsException") hown [] ⟨0, 9, 12, 13⟩ [] (htab.trans rfl) (fun z9 h9 => nomatch h9) (by decide) (by decide) (hts _ (xm w_510)) (hw.2.2.2.2.2.1.cast (List.mem_of_getElem? (i := 521) (by decide +kernel)) _) hce hcv hcl hT X9 ?_
    refine W.eq (g2 := F0 m 12 ls [.ref q9]) rfl ?_
    refine lv_astore_n (lv' := [(3, .ref q9), (0, .ref x0), (1, .int x1), (2, .ref x2)]) hx hb d_L_count_12 rfl hl (by decide) rfl (fun ls hl => ?_)
    refine lv_iconst (v := 1) hx hb d_L_count_13 (by decide) ?_
    exact xr_iret F rfl hw d_L_count_14
set_option maxRecDepth 100000 in
set_option maxHeartbeats 4000000 in
theorem t_L_value_J16 (l : Launch) (Z : XZ) (u0 : PS) {K : Int32 → PS → Prop} (s0 : Nat) (s1 : Int32) (s2 : Int64) (u : PS) (k : (p_L_value_J16 K s0 s1 s2 u)) : XNh hh_L_value l Z i_L_value u0 (kI K) u 16 [] [.long s2, .int s1, .ref s0] := by
  unfold p_L_value_J16 at k
  obtain ⟨u_6, h1, k⟩ := k
  have hle_u_6 : x_le u_6 u_6 := x_le.rf u_6
  have hle_u : x_le u u_6 := (h1.le).tr hle_u_6
  refine ⟨some (.int 0), u_6, ⟨(0 : Int32), rfl, k⟩, hle_u, ?_⟩
  intro p e s m args below meth c A H locs ls F htab hw hl
  obtain ⟨⟨hx, hb, hml, hown, hts⟩, hr, hlocks, hmn⟩ := id F
  refine xr_last hx hb hw h1 d_L_value_16 (fun H locs hw => ?_)
  refine lv_goto (tgt := 28) hx hb d_L_value_17 (by decide) ?_
  refine lv_iconst (v := 0) hx hb d_L_value_28 (by decide) ?_
  exact xr_iret F rfl hw d_L_value_29
set_option maxRecDepth 100000 in
set_option maxHeartbeats 4000000 in
theorem c_L_value (l : Launch) (Z : XZ) (x0 : Nat) (x1 : Int32) (x2 : Int32) (x3 : Nat) (u : PS) (K : Int32 → PS → Prop) (k : p_L_value x0 x1 x2 x3 u K) : ∃ (rv : Option Value) (u1 : PS), (kI K) rv u1 ∧ XMet l Z i_L_value [.ref x0, .int x1, .int x2, .ref x3] u rv u1 := by
  refine x_meth (by decide) rfl (Nat.le_of_ble_eq_true rfl) ?_
  show XNh hh_L_value l Z i_L_value u (kI K) u 0 [(0, .ref x0), (1, .int x1), (2, .int x2), (3, .ref x3)] []
  unfold p_L_value at k
  obtain ⟨h2, k⟩ := k
  rcases c_H_value l Z x0 x1 x2 u _ _ k with ⟨_, u_4, ⟨r_5, rfl, k⟩, hM1⟩ | ⟨E9, u_4, k, hM1⟩
  ·
    by_cases hc3 : r_5 = 0
    · have k := k.1 hc3
      obtain ⟨rv, v9, hK, hle_u_4, w9⟩ := t_L_value_J16 l Z u x3 (0 : Int32) (0 : Int64) u_4 k
      have hle_u : x_le u v9 := (hM1.1).tr hle_u_4
      refine ⟨rv, v9, hK, hle_u, ?_⟩
      intro p e s m args below meth c A H locs ls F htab hw hl
      obtain ⟨⟨hx, hb, hml, hown, hts⟩, hr, hlocks, hmn⟩ := id F
      refine lv_aload_n hx hb d_L_value_0 rfl (lv_at hl 3 rfl) ?_
      refine lv_iconst (v := 0) hx hb d_L_value_1 (by decide) ?_
      refine lv_aload_n hx hb d_L_value_2 rfl (lv_at hl 0 rfl) ?_
      refine lv_iload_n hx hb d_L_value_3 rfl (lv_at hl 1 rfl) ?_
      refine lv_iload_n hx hb d_L_value_4 rfl (lv_at hl 2 rfl) ?_
      refine xr_cV (As := [.int x1, .int x2]) (rest := [.int 0, .ref x3]) ⟨hx, hb, hml, hown, hts⟩ hw hM1 hle_u_4 (fun _ _ => ⟨callB_of 2 hts (xgood w_798) rfl rfl rfl (hts _ (xm w_1)) (hts _ (xm w_795)) ⟨by decide, by decide, by decide +kernel⟩ ⟨Nat.le_of_ble_eq_true rfl, Nat.le_of_ble_eq_true rfl⟩, (hts _ (xm w_796)), (hts _ (xm w_797))⟩) (qc := (R_H, F_H, 2)) rfl rfl h2 rfl hl.1 rfl (Nat.le_of_ble_eq_true rfl) d_L_value_5 (fun H locs hw => ?_)
      refine W.eq (g2 := F0 m 8 ls [.int r_5, .int 0, .ref x3]) rfl ?_
      refine lv_if_eq (tgt := 15) hx hb d_L_value_8 (by decide) (fun _ => ?_) (fun c9 => absurd hc3 c9)
      refine lv_lconst (v := 0) hx hb d_L_value_15 (by decide) ?_
      exact w9 p e s m args below meth c A H locs ls F htab hw (lv_sub hl [] rfl)
    · have k := k.2 hc3
      obtain ⟨rv, v9, hK, hle_u_4, w9⟩ := t_L_value_J16 l Z u x3 (0 : Int32) (1 : Int64) u_4 k
      have hle_u : x_le u v9 := (hM1.1).tr hle_u_4
      refine ⟨rv, v9, hK, hle_u, ?_⟩
      intro p e s m args below meth c A H locs ls F htab hw hl
      obtain ⟨⟨hx, hb, hml, hown, hts⟩, hr, hlocks, hmn⟩ := id F
      refine lv_aload_n hx hb d_L_value_0 rfl (lv_at hl 3 rfl) ?_
      refine lv_iconst (v := 0) hx hb d_L_value_1 (by decide) ?_
      refine lv_aload_n hx hb d_L_value_2 rfl (lv_at hl 0 rfl) ?_
      refine lv_iload_n hx hb d_L_value_3 rfl (lv_at hl 1 rfl) ?_
      refine lv_iload_n hx hb d_L_value_4 rfl (lv_at hl 2 rfl) ?_
      refine xr_cV (As := [.int x1, .int x2]) (rest := [.int 0, .ref x3]) ⟨hx, hb, hml, hown, hts⟩ hw hM1 hle_u_4 (fun _ _ => ⟨callB_of 2 hts (xgood w_798) rfl rfl rfl (hts _ (xm w_1)) (hts _ (xm w_795)) ⟨by decide, by decide, by decide +kernel⟩ ⟨Nat.le_of_ble_eq_true rfl, Nat.le_of_ble_eq_true rfl⟩, (hts _ (xm w_796)), (hts _ (xm w_797))⟩) (qc := (R_H, F_H, 2)) rfl rfl h2 rfl hl.1 rfl (Nat.le_of_ble_eq_true rfl) d_L_value_5 (fun H locs hw => ?_)
      refine W.eq (g2 := F0 m 8 ls [.int r_5, .int 0, .ref x3]) rfl ?_
      refine lv_if_eq (tgt := 15) hx hb d_L_value_8 (by decide) (fun c9 => absurd c9 hc3) (fun _ => ?_)
      refine lv_lconst (v := 1) hx hb d_L_value_11 (by decide) ?_
      refine lv_goto (tgt := 16) hx hb d_L_value_12 (by decide) ?_
      exact w9 p e s m args below meth c A H locs ls F htab hw (lv_sub hl [] rfl)
  ·
    rcases k with ⟨rfl, k⟩ | ⟨rfl, k⟩
    ·
      have hle_u_4 : x_le u_4 u_4 := x_le.rf u_4
      have hle_u : x_le u u_4 := (hM1.1).tr hle_u_4
      refine ⟨some (.int 1), u_4, ⟨(1 : Int32), rfl, k⟩, hle_u, ?_⟩
      intro p e s m args below meth c A H locs ls F htab hw hl
      obtain ⟨⟨hx, hb, hml, hown, hts⟩, hr, hlocks, hmn⟩ := id F
      refine lv_aload_n hx hb d_L_value_0 rfl (lv_at hl 3 rfl) ?_
      refine lv_iconst (v := 0) hx hb d_L_value_1 (by decide) ?_
      refine lv_aload_n hx hb d_L_value_2 rfl (lv_at hl 0 rfl) ?_
      refine lv_iload_n hx hb d_L_value_3 rfl (lv_at hl 1 rfl) ?_
      refine lv_iload_n hx hb d_L_value_4 rfl (lv_at hl 2 rfl) ?_
      refine xt_cV (As := [.int x1, .int x2]) (rest := [.int 0, .ref x3]) ⟨hx, hb, hml, hown, hts⟩ hw hM1 hle_u_4 (fun _ _ => ⟨callB_of 2 hts (xgood w_798) rfl rfl rfl (hts _ (xm w_1)) (hts _ (xm w_795)) ⟨by decide, by decide, by decide +kernel⟩ ⟨Nat.le_of_ble_eq_true rfl, Nat.le_of_ble_eq_true rfl⟩, (hts _ (xm w_796)), (hts _ (xm w_797))⟩) (qc := (R_H, F_H, 2)) rfl rfl h2 rfl hl.1 rfl (Nat.le_of_ble_eq_true rfl) d_L_value_5 (fun q9 ce H locs T9 hw hce hcv hcl hT X9 => ?_)
      refine xt_catch (name := "java/lang/IndexOutOfBoundsException") hown [] ⟨0, 17, 20, 13⟩ [⟨0, 17, 24, 15⟩] (htab.trans rfl) (fun z9 h9 => nomatch h9) (by decide) (by decide) (hts _ (xm w_510)) (hw.2.2.2.2.2.1.cast (List.mem_of_getElem? (i := 521) (by decide +kernel)) _) hce hcv hcl hT X9 ?_
      refine W.eq (g2 := F0 m 20 ls [.ref q9]) rfl ?_
      refine lv_astore (lv' := [(4, .ref q9), (0, .ref x0), (1, .int x1), (2, .int x2), (3, .ref x3)]) hx hb d_L_value_20 hl (by decide) rfl (fun ls hl => ?_)
      refine lv_iconst (v := 1) hx hb d_L_value_22 (by decide) ?_
      exact xr_iret F rfl hw d_L_value_23
    ·
      have hle_u_4 : x_le u_4 u_4 := x_le.rf u_4
      have hle_u : x_le u u_4 := (hM1.1).tr hle_u_4
      refine ⟨some (.int 2), u_4, ⟨(2 : Int32), rfl, k⟩, hle_u, ?_⟩
      intro p e s m args below meth c A H locs ls F htab hw hl
      obtain ⟨⟨hx, hb, hml, hown, hts⟩, hr, hlocks, hmn⟩ := id F
      refine lv_aload_n hx hb d_L_value_0 rfl (lv_at hl 3 rfl) ?_
      refine lv_iconst (v := 0) hx hb d_L_value_1 (by decide) ?_
      refine lv_aload_n hx hb d_L_value_2 rfl (lv_at hl 0 rfl) ?_
      refine lv_iload_n hx hb d_L_value_3 rfl (lv_at hl 1 rfl) ?_
      refine lv_iload_n hx hb d_L_value_4 rfl (lv_at hl 2 rfl) ?_
      refine xt_cV (As := [.int x1, .int x2]) (rest := [.int 0, .ref x3]) ⟨hx, hb, hml, hown, hts⟩ hw hM1 hle_u_4 (fun _ _ => ⟨callB_of 2 hts (xgood w_798) rfl rfl rfl (hts _ (xm w_1)) (hts _ (xm w_795)) ⟨by decide, by decide, by decide +kernel⟩ ⟨Nat.le_of_ble_eq_true rfl, Nat.le_of_ble_eq_true rfl⟩, (hts _ (xm w_796)), (hts _ (xm w_797))⟩) (qc := (R_H, F_H, 2)) rfl rfl h2 rfl hl.1 rfl (Nat.le_of_ble_eq_true rfl) d_L_value_5 (fun q9 ce H locs T9 hw hce hcv hcl hT X9 => ?_)
      refine xt_catch (name := "java/lang/IllegalArgumentException") hown [⟨0, 17, 20, 13⟩] ⟨0, 17, 24, 15⟩ [] (htab.trans rfl) (fun z9 h9 => by cases List.mem_singleton.mp h9; exact ⟨by decide, "java/lang/IndexOutOfBoundsException", (hts _ (xm w_510)), hw.2.2.2.2.2.1.nocast (by decide +kernel)⟩) (by decide) (by decide) (hts _ (xm w_511)) (hw.2.2.2.2.2.1.cast (List.mem_of_getElem? (i := 591) (by decide +kernel)) _) hce hcv hcl hT X9 ?_
      refine W.eq (g2 := F0 m 24 ls [.ref q9]) rfl ?_
      refine lv_astore (lv' := [(4, .ref q9), (0, .ref x0), (1, .int x1), (2, .int x2), (3, .ref x3)]) hx hb d_L_value_24 hl (by decide) rfl (fun ls hl => ?_)
      refine lv_iconst (v := 2) hx hb d_L_value_26 (by decide) ?_
      exact xr_iret F rfl hw d_L_value_27
set_option maxRecDepth 100000 in
set_option maxHeartbeats 4000000 in
theorem c_L_least (l : Launch) (Z : XZ) (x0 : Nat) (x1 : Int32) (x2 : Nat) (u : PS) (K : Int32 → PS → Prop) (k : p_L_least x0 x1 x2 u K) : ∃ (rv : Option Value) (u1 : PS), (kI K) rv u1 ∧ XMet l Z i_L_least [.ref x0, .int x1, .ref x2] u rv u1 := by
  refine x_meth (by decide) rfl (Nat.le_of_ble_eq_true rfl) ?_
  show XNh hh_L_least l Z i_L_least u (kI K) u 0 [(0, .ref x0), (1, .int x1), (2, .ref x2)] []
  unfold p_L_least at k
  obtain ⟨h2, k⟩ := k
  rcases c_H_least l Z x0 x1 u _ _ k with ⟨_, u_4, ⟨r_5, rfl, k⟩, hM1⟩ | ⟨E9, u_4, k, hM1⟩
  ·
    obtain ⟨u_6, h3, k⟩ := k
    have hle_u_6 : x_le u_6 u_6 := x_le.rf u_6
    have hle_u_4 : x_le u_4 u_6 := (h3.le).tr hle_u_6
    have hle_u : x_le u u_6 := (hM1.1).tr hle_u_4
    refine ⟨some (.int 0), u_6, ⟨(0 : Int32), rfl, k⟩, hle_u, ?_⟩
    intro p e s m args below meth c A H locs ls F htab hw hl
    obtain ⟨⟨hx, hb, hml, hown, hts⟩, hr, hlocks, hmn⟩ := id F
    refine lv_aload_n hx hb d_L_least_0 rfl (lv_at hl 2 rfl) ?_
    refine lv_iconst (v := 0) hx hb d_L_least_1 (by decide) ?_
    refine lv_aload_n hx hb d_L_least_2 rfl (lv_at hl 0 rfl) ?_
    refine lv_iload_n hx hb d_L_least_3 rfl (lv_at hl 1 rfl) ?_
    refine xr_cV (As := [.int x1]) (rest := [.int 0, .ref x2]) ⟨hx, hb, hml, hown, hts⟩ hw hM1 hle_u_4 (fun _ _ => ⟨callB_of 1 hts (xgood w_806) rfl rfl rfl (hts _ (xm w_1)) (hts _ (xm w_803)) ⟨by decide, by decide, by decide +kernel⟩ ⟨Nat.le_of_ble_eq_true rfl, Nat.le_of_ble_eq_true rfl⟩, (hts _ (xm w_804)), (hts _ (xm w_805))⟩) (qc := (R_H, F_H, 2)) rfl rfl h2 rfl hl.1 rfl (Nat.le_of_ble_eq_true rfl) d_L_least_4 (fun H locs hw => ?_)
    refine W.eq (g2 := F0 m 7 ls [.int r_5, .int 0, .ref x2]) rfl ?_
    refine lv_i2l hx hb d_L_least_7 rfl ?_
    refine xr_last hx hb hw h3 d_L_least_8 (fun H locs hw => ?_)
    refine lv_goto (tgt := 15) hx hb d_L_least_9 (by decide) ?_
    refine lv_iconst (v := 0) hx hb d_L_least_15 (by decide) ?_
    exact xr_iret F rfl hw d_L_least_16
  ·
    rcases k with ⟨rfl, k⟩
    have hle_u_4 : x_le u_4 u_4 := x_le.rf u_4
    have hle_u : x_le u u_4 := (hM1.1).tr hle_u_4
    refine ⟨some (.int 1), u_4, ⟨(1 : Int32), rfl, k⟩, hle_u, ?_⟩
    intro p e s m args below meth c A H locs ls F htab hw hl
    obtain ⟨⟨hx, hb, hml, hown, hts⟩, hr, hlocks, hmn⟩ := id F
    refine lv_aload_n hx hb d_L_least_0 rfl (lv_at hl 2 rfl) ?_
    refine lv_iconst (v := 0) hx hb d_L_least_1 (by decide) ?_
    refine lv_aload_n hx hb d_L_least_2 rfl (lv_at hl 0 rfl) ?_
    refine lv_iload_n hx hb d_L_least_3 rfl (lv_at hl 1 rfl) ?_
    refine xt_cV (As := [.int x1]) (rest := [.int 0, .ref x2]) ⟨hx, hb, hml, hown, hts⟩ hw hM1 hle_u_4 (fun _ _ => ⟨callB_of 1 hts (xgood w_806) rfl rfl rfl (hts _ (xm w_1)) (hts _ (xm w_803)) ⟨by decide, by decide, by decide +kernel⟩ ⟨Nat.le_of_ble_eq_true rfl, Nat.le_of_ble_eq_true rfl⟩, (hts _ (xm w_804)), (hts _ (xm w_805))⟩) (qc := (R_H, F_H, 2)) rfl rfl h2 rfl hl.1 rfl (Nat.le_of_ble_eq_true rfl) d_L_least_4 (fun q9 ce H locs T9 hw hce hcv hcl hT X9 => ?_)
    refine xt_catch (name := "java/lang/IndexOutOfBoundsException") hown [] ⟨0, 9, 12, 13⟩ [] (htab.trans rfl) (fun z9 h9 => nomatch h9) (by decide) (by decide) (hts _ (xm w_510)) (hw.2.2.2.2.2.1.cast (List.mem_of_getElem? (i := 521) (by decide +kernel)) _) hce hcv hcl hT X9 ?_
    refine W.eq (g2 := F0 m 12 ls [.ref q9]) rfl ?_
    refine lv_astore_n (lv' := [(3, .ref q9), (0, .ref x0), (1, .int x1), (2, .ref x2)]) hx hb d_L_least_12 rfl hl (by decide) rfl (fun ls hl => ?_)
    refine lv_iconst (v := 1) hx hb d_L_least_13 (by decide) ?_
    exact xr_iret F rfl hw d_L_least_14
set_option maxRecDepth 100000 in
set_option maxHeartbeats 4000000 in
theorem c_L_support (l : Launch) (Z : XZ) (x0 : Nat) (x1 : Int32) (x2 : Nat) (u : PS) (K : Int32 → PS → Prop) (k : p_L_support x0 x1 x2 u K) : ∃ (rv : Option Value) (u1 : PS), (kI K) rv u1 ∧ XMet l Z i_L_support [.ref x0, .int x1, .ref x2] u rv u1 := by
  refine x_meth (by decide) rfl (Nat.le_of_ble_eq_true rfl) ?_
  show XNh hh_L_support l Z i_L_support u (kI K) u 0 [(0, .ref x0), (1, .int x1), (2, .ref x2)] []
  unfold p_L_support at k
  obtain ⟨h2, k⟩ := k
  rcases c_H_support l Z x0 x1 u _ _ k with ⟨_, u_4, ⟨r_5, rfl, k⟩, hM1⟩ | ⟨E9, u_4, k, hM1⟩
  ·
    obtain ⟨u_6, h3, k⟩ := k
    have hle_u_6 : x_le u_6 u_6 := x_le.rf u_6
    have hle_u_4 : x_le u_4 u_6 := (h3.le).tr hle_u_6
    have hle_u : x_le u u_6 := (hM1.1).tr hle_u_4
    refine ⟨some (.int 0), u_6, ⟨(0 : Int32), rfl, k⟩, hle_u, ?_⟩
    intro p e s m args below meth c A H locs ls F htab hw hl
    obtain ⟨⟨hx, hb, hml, hown, hts⟩, hr, hlocks, hmn⟩ := id F
    refine lv_aload_n hx hb d_L_support_0 rfl (lv_at hl 2 rfl) ?_
    refine lv_iconst (v := 0) hx hb d_L_support_1 (by decide) ?_
    refine lv_aload_n hx hb d_L_support_2 rfl (lv_at hl 0 rfl) ?_
    refine lv_iload_n hx hb d_L_support_3 rfl (lv_at hl 1 rfl) ?_
    refine xr_cV (As := [.int x1]) (rest := [.int 0, .ref x2]) ⟨hx, hb, hml, hown, hts⟩ hw hM1 hle_u_4 (fun _ _ => ⟨callB_of 1 hts (xgood w_821) rfl rfl rfl (hts _ (xm w_1)) (hts _ (xm w_818)) ⟨by decide, by decide, by decide +kernel⟩ ⟨Nat.le_of_ble_eq_true rfl, Nat.le_of_ble_eq_true rfl⟩, (hts _ (xm w_819)), (hts _ (xm w_820))⟩) (qc := (R_H, F_H, 2)) rfl rfl h2 rfl hl.1 rfl (Nat.le_of_ble_eq_true rfl) d_L_support_4 (fun H locs hw => ?_)
    refine W.eq (g2 := F0 m 7 ls [.int r_5, .int 0, .ref x2]) rfl ?_
    refine lv_i2l hx hb d_L_support_7 rfl ?_
    refine xr_last hx hb hw h3 d_L_support_8 (fun H locs hw => ?_)
    refine lv_goto (tgt := 15) hx hb d_L_support_9 (by decide) ?_
    refine lv_iconst (v := 0) hx hb d_L_support_15 (by decide) ?_
    exact xr_iret F rfl hw d_L_support_16
  ·
    rcases k with ⟨rfl, k⟩
    have hle_u_4 : x_le u_4 u_4 := x_le.rf u_4
    have hle_u : x_le u u_4 := (hM1.1).tr hle_u_4
    refine ⟨some (.int 1), u_4, ⟨(1 : Int32), rfl, k⟩, hle_u, ?_⟩
    intro p e s m args below meth c A H locs ls F htab hw hl
    obtain ⟨⟨hx, hb, hml, hown, hts⟩, hr, hlocks, hmn⟩ := id F
    refine lv_aload_n hx hb d_L_support_0 rfl (lv_at hl 2 rfl) ?_
    refine lv_iconst (v := 0) hx hb d_L_support_1 (by decide) ?_
    refine lv_aload_n hx hb d_L_support_2 rfl (lv_at hl 0 rfl) ?_
    refine lv_iload_n hx hb d_L_support_3 rfl (lv_at hl 1 rfl) ?_
    refine xt_cV (As := [.int x1]) (rest := [.int 0, .ref x2]) ⟨hx, hb, hml, hown, hts⟩ hw hM1 hle_u_4 (fun _ _ => ⟨callB_of 1 hts (xgood w_821) rfl rfl rfl (hts _ (xm w_1)) (hts _ (xm w_818)) ⟨by decide, by decide, by decide +kernel⟩ ⟨Nat.le_of_ble_eq_true rfl, Nat.le_of_ble_eq_true rfl⟩, (hts _ (xm w_819)), (hts _ (xm w_820))⟩) (qc := (R_H, F_H, 2)) rfl rfl h2 rfl hl.1 rfl (Nat.le_of_ble_eq_true rfl) d_L_support_4 (fun q9 ce H locs T9 hw hce hcv hcl hT X9 => ?_)
    refine xt_catch (name := "java/lang/IndexOutOfBoundsException") hown [] ⟨0, 9, 12, 13⟩ [] (htab.trans rfl) (fun z9 h9 => nomatch h9) (by decide) (by decide) (hts _ (xm w_510)) (hw.2.2.2.2.2.1.cast (List.mem_of_getElem? (i := 521) (by decide +kernel)) _) hce hcv hcl hT X9 ?_
    refine W.eq (g2 := F0 m 12 ls [.ref q9]) rfl ?_
    refine lv_astore_n (lv' := [(3, .ref q9), (0, .ref x0), (1, .int x1), (2, .ref x2)]) hx hb d_L_support_12 rfl hl (by decide) rfl (fun ls hl => ?_)
    refine lv_iconst (v := 1) hx hb d_L_support_13 (by decide) ?_
    exact xr_iret F rfl hw d_L_support_14
set_option maxRecDepth 100000 in
set_option maxHeartbeats 4000000 in
theorem t_L_alike_J16 (l : Launch) (Z : XZ) (u0 : PS) {K : Int32 → PS → Prop} (s0 : Nat) (s1 : Int32) (s2 : Int64) (u : PS) (k : (p_L_alike_J16 K s0 s1 s2 u)) : XNh hh_L_alike l Z i_L_alike u0 (kI K) u 16 [] [.long s2, .int s1, .ref s0] := by
  unfold p_L_alike_J16 at k
  obtain ⟨u_6, h1, k⟩ := k
  have hle_u_6 : x_le u_6 u_6 := x_le.rf u_6
  have hle_u : x_le u u_6 := (h1.le).tr hle_u_6
  refine ⟨some (.int 0), u_6, ⟨(0 : Int32), rfl, k⟩, hle_u, ?_⟩
  intro p e s m args below meth c A H locs ls F htab hw hl
  obtain ⟨⟨hx, hb, hml, hown, hts⟩, hr, hlocks, hmn⟩ := id F
  refine xr_last hx hb hw h1 d_L_alike_16 (fun H locs hw => ?_)
  refine lv_goto (tgt := 24) hx hb d_L_alike_17 (by decide) ?_
  refine lv_iconst (v := 0) hx hb d_L_alike_24 (by decide) ?_
  exact xr_iret F rfl hw d_L_alike_25
set_option maxRecDepth 100000 in
set_option maxHeartbeats 4000000 in
theorem c_L_alike (l : Launch) (Z : XZ) (x0 : Nat) (x1 : Int32) (x2 : Int32) (x3 : Nat) (u : PS) (K : Int32 → PS → Prop) (k : p_L_alike x0 x1 x2 x3 u K) : ∃ (rv : Option Value) (u1 : PS), (kI K) rv u1 ∧ XMet l Z i_L_alike [.ref x0, .int x1, .int x2, .ref x3] u rv u1 := by
  refine x_meth (by decide) rfl (Nat.le_of_ble_eq_true rfl) ?_
  show XNh hh_L_alike l Z i_L_alike u (kI K) u 0 [(0, .ref x0), (1, .int x1), (2, .int x2), (3, .ref x3)] []
  unfold p_L_alike at k
  obtain ⟨h2, k⟩ := k
  rcases c_H_alike l Z x0 x1 x2 u _ _ k with ⟨_, u_4, ⟨r_5, rfl, k⟩, hM1⟩ | ⟨E9, u_4, k, hM1⟩
  ·
    by_cases hc3 : r_5 = 0
    · have k := k.1 hc3
      obtain ⟨rv, v9, hK, hle_u_4, w9⟩ := t_L_alike_J16 l Z u x3 (0 : Int32) (0 : Int64) u_4 k
      have hle_u : x_le u v9 := (hM1.1).tr hle_u_4
      refine ⟨rv, v9, hK, hle_u, ?_⟩
      intro p e s m args below meth c A H locs ls F htab hw hl
      obtain ⟨⟨hx, hb, hml, hown, hts⟩, hr, hlocks, hmn⟩ := id F
      refine lv_aload_n hx hb d_L_alike_0 rfl (lv_at hl 3 rfl) ?_
      refine lv_iconst (v := 0) hx hb d_L_alike_1 (by decide) ?_
      refine lv_aload_n hx hb d_L_alike_2 rfl (lv_at hl 0 rfl) ?_
      refine lv_iload_n hx hb d_L_alike_3 rfl (lv_at hl 1 rfl) ?_
      refine lv_iload_n hx hb d_L_alike_4 rfl (lv_at hl 2 rfl) ?_
      refine xr_cV (As := [.int x1, .int x2]) (rest := [.int 0, .ref x3]) ⟨hx, hb, hml, hown, hts⟩ hw hM1 hle_u_4 (fun _ _ => ⟨callB_of 2 hts (xgood w_829) rfl rfl rfl (hts _ (xm w_1)) (hts _ (xm w_826)) ⟨by decide, by decide, by decide +kernel⟩ ⟨Nat.le_of_ble_eq_true rfl, Nat.le_of_ble_eq_true rfl⟩, (hts _ (xm w_827)), (hts _ (xm w_828))⟩) (qc := (R_H, F_H, 2)) rfl rfl h2 rfl hl.1 rfl (Nat.le_of_ble_eq_true rfl) d_L_alike_5 (fun H locs hw => ?_)
      refine W.eq (g2 := F0 m 8 ls [.int r_5, .int 0, .ref x3]) rfl ?_
      refine lv_if_eq (tgt := 15) hx hb d_L_alike_8 (by decide) (fun _ => ?_) (fun c9 => absurd hc3 c9)
      refine lv_lconst (v := 0) hx hb d_L_alike_15 (by decide) ?_
      exact w9 p e s m args below meth c A H locs ls F htab hw (lv_sub hl [] rfl)
    · have k := k.2 hc3
      obtain ⟨rv, v9, hK, hle_u_4, w9⟩ := t_L_alike_J16 l Z u x3 (0 : Int32) (1 : Int64) u_4 k
      have hle_u : x_le u v9 := (hM1.1).tr hle_u_4
      refine ⟨rv, v9, hK, hle_u, ?_⟩
      intro p e s m args below meth c A H locs ls F htab hw hl
      obtain ⟨⟨hx, hb, hml, hown, hts⟩, hr, hlocks, hmn⟩ := id F
      refine lv_aload_n hx hb d_L_alike_0 rfl (lv_at hl 3 rfl) ?_
      refine lv_iconst (v := 0) hx hb d_L_alike_1 (by decide) ?_
      refine lv_aload_n hx hb d_L_alike_2 rfl (lv_at hl 0 rfl) ?_
      refine lv_iload_n hx hb d_L_alike_3 rfl (lv_at hl 1 rfl) ?_
      refine lv_iload_n hx hb d_L_alike_4 rfl (lv_at hl 2 rfl) ?_
      refine xr_cV (As := [.int x1, .int x2]) (rest := [.int 0, .ref x3]) ⟨hx, hb, hml, hown, hts⟩ hw hM1 hle_u_4 (fun _ _ => ⟨callB_of 2 hts (xgood w_829) rfl rfl rfl (hts _ (xm w_1)) (hts _ (xm w_826)) ⟨by decide, by decide, by decide +kernel⟩ ⟨Nat.le_of_ble_eq_true rfl, Nat.le_of_ble_eq_true rfl⟩, (hts _ (xm w_827)), (hts _ (xm w_828))⟩) (qc := (R_H, F_H, 2)) rfl rfl h2 rfl hl.1 rfl (Nat.le_of_ble_eq_true rfl) d_L_alike_5 (fun H locs hw => ?_)
      refine W.eq (g2 := F0 m 8 ls [.int r_5, .int 0, .ref x3]) rfl ?_
      refine lv_if_eq (tgt := 15) hx hb d_L_alike_8 (by decide) (fun c9 => absurd c9 hc3) (fun _ => ?_)
      refine lv_lconst (v := 1) hx hb d_L_alike_11 (by decide) ?_
      refine lv_goto (tgt := 16) hx hb d_L_alike_12 (by decide) ?_
      exact w9 p e s m args below meth c A H locs ls F htab hw (lv_sub hl [] rfl)
  ·
    rcases k with ⟨rfl, k⟩
    have hle_u_4 : x_le u_4 u_4 := x_le.rf u_4
    have hle_u : x_le u u_4 := (hM1.1).tr hle_u_4
    refine ⟨some (.int 1), u_4, ⟨(1 : Int32), rfl, k⟩, hle_u, ?_⟩
    intro p e s m args below meth c A H locs ls F htab hw hl
    obtain ⟨⟨hx, hb, hml, hown, hts⟩, hr, hlocks, hmn⟩ := id F
    refine lv_aload_n hx hb d_L_alike_0 rfl (lv_at hl 3 rfl) ?_
    refine lv_iconst (v := 0) hx hb d_L_alike_1 (by decide) ?_
    refine lv_aload_n hx hb d_L_alike_2 rfl (lv_at hl 0 rfl) ?_
    refine lv_iload_n hx hb d_L_alike_3 rfl (lv_at hl 1 rfl) ?_
    refine lv_iload_n hx hb d_L_alike_4 rfl (lv_at hl 2 rfl) ?_
    refine xt_cV (As := [.int x1, .int x2]) (rest := [.int 0, .ref x3]) ⟨hx, hb, hml, hown, hts⟩ hw hM1 hle_u_4 (fun _ _ => ⟨callB_of 2 hts (xgood w_829) rfl rfl rfl (hts _ (xm w_1)) (hts _ (xm w_826)) ⟨by decide, by decide, by decide +kernel⟩ ⟨Nat.le_of_ble_eq_true rfl, Nat.le_of_ble_eq_true rfl⟩, (hts _ (xm w_827)), (hts _ (xm w_828))⟩) (qc := (R_H, F_H, 2)) rfl rfl h2 rfl hl.1 rfl (Nat.le_of_ble_eq_true rfl) d_L_alike_5 (fun q9 ce H locs T9 hw hce hcv hcl hT X9 => ?_)
    refine xt_catch (name := "java/lang/IndexOutOfBoundsException") hown [] ⟨0, 17, 20, 13⟩ [] (htab.trans rfl) (fun z9 h9 => nomatch h9) (by decide) (by decide) (hts _ (xm w_510)) (hw.2.2.2.2.2.1.cast (List.mem_of_getElem? (i := 521) (by decide +kernel)) _) hce hcv hcl hT X9 ?_
    refine W.eq (g2 := F0 m 20 ls [.ref q9]) rfl ?_
    refine lv_astore (lv' := [(4, .ref q9), (0, .ref x0), (1, .int x1), (2, .int x2), (3, .ref x3)]) hx hb d_L_alike_20 hl (by decide) rfl (fun ls hl => ?_)
    refine lv_iconst (v := 1) hx hb d_L_alike_22 (by decide) ?_
    exact xr_iret F rfl hw d_L_alike_23
set_option maxRecDepth 100000 in
set_option maxHeartbeats 4000000 in
theorem c_L_asked (l : Launch) (Z : XZ) (x0 : Nat) (x1 : Int32) (x2 : Int32) (x3 : Int32) (x4 : Nat) (u : PS) (K : Int32 → PS → Prop) (k : p_L_asked x0 x1 x2 x3 x4 u K) : ∃ (rv : Option Value) (u1 : PS), (kI K) rv u1 ∧ XMet l Z i_L_asked [.ref x0, .int x1, .int x2, .int x3, .ref x4] u rv u1 := by
  refine x_meth (by decide) rfl (Nat.le_of_ble_eq_true rfl) ?_
  show XNh hh_L_asked l Z i_L_asked u (kI K) u 0 [(0, .ref x0), (1, .int x1), (2, .int x2), (3, .int x3), (4, .ref x4)] []
  unfold p_L_asked at k
  obtain ⟨h2, k⟩ := k
  rcases c_H_asked l Z x0 x1 x2 x3 u _ _ k with ⟨_, u_4, ⟨r_5, rfl, k⟩, hM1⟩ | ⟨E9, u_4, k, hM1⟩
  ·
    obtain ⟨u_6, h3, k⟩ := k
    have hle_u_6 : x_le u_6 u_6 := x_le.rf u_6
    have hle_u_4 : x_le u_4 u_6 := (h3.le).tr hle_u_6
    have hle_u : x_le u u_6 := (hM1.1).tr hle_u_4
    refine ⟨some (.int 0), u_6, ⟨(0 : Int32), rfl, k⟩, hle_u, ?_⟩
    intro p e s m args below meth c A H locs ls F htab hw hl
    obtain ⟨⟨hx, hb, hml, hown, hts⟩, hr, hlocks, hmn⟩ := id F
    refine lv_aload hx hb d_L_asked_0 (lv_at hl 4 rfl) ?_
    refine lv_iconst (v := 0) hx hb d_L_asked_2 (by decide) ?_
    refine lv_aload_n hx hb d_L_asked_3 rfl (lv_at hl 0 rfl) ?_
    refine lv_iload_n hx hb d_L_asked_4 rfl (lv_at hl 1 rfl) ?_
    refine lv_iload_n hx hb d_L_asked_5 rfl (lv_at hl 2 rfl) ?_
    refine lv_iload_n hx hb d_L_asked_6 rfl (lv_at hl 3 rfl) ?_
    refine xr_cV (As := [.int x1, .int x2, .int x3]) (rest := [.int 0, .ref x4]) ⟨hx, hb, hml, hown, hts⟩ hw hM1 hle_u_4 (fun _ _ => ⟨callB_of 3 hts (xgood w_840) rfl rfl rfl (hts _ (xm w_1)) (hts _ (xm w_837)) ⟨by decide, by decide, by decide +kernel⟩ ⟨Nat.le_of_ble_eq_true rfl, Nat.le_of_ble_eq_true rfl⟩, (hts _ (xm w_838)), (hts _ (xm w_839))⟩) (qc := (R_H, F_H, 2)) rfl rfl h2 rfl hl.1 rfl (Nat.le_of_ble_eq_true rfl) d_L_asked_7 (fun H locs hw => ?_)
    refine W.eq (g2 := F0 m 10 ls [.int r_5, .int 0, .ref x4]) rfl ?_
    refine lv_i2l hx hb d_L_asked_10 rfl ?_
    refine xr_last hx hb hw h3 d_L_asked_11 (fun H locs hw => ?_)
    refine lv_goto (tgt := 23) hx hb d_L_asked_12 (by decide) ?_
    refine lv_iconst (v := 0) hx hb d_L_asked_23 (by decide) ?_
    exact xr_iret F rfl hw d_L_asked_24
  ·
    rcases k with ⟨rfl, k⟩ | ⟨rfl, k⟩
    ·
      have hle_u_4 : x_le u_4 u_4 := x_le.rf u_4
      have hle_u : x_le u u_4 := (hM1.1).tr hle_u_4
      refine ⟨some (.int 1), u_4, ⟨(1 : Int32), rfl, k⟩, hle_u, ?_⟩
      intro p e s m args below meth c A H locs ls F htab hw hl
      obtain ⟨⟨hx, hb, hml, hown, hts⟩, hr, hlocks, hmn⟩ := id F
      refine lv_aload hx hb d_L_asked_0 (lv_at hl 4 rfl) ?_
      refine lv_iconst (v := 0) hx hb d_L_asked_2 (by decide) ?_
      refine lv_aload_n hx hb d_L_asked_3 rfl (lv_at hl 0 rfl) ?_
      refine lv_iload_n hx hb d_L_asked_4 rfl (lv_at hl 1 rfl) ?_
      refine lv_iload_n hx hb d_L_asked_5 rfl (lv_at hl 2 rfl) ?_
      refine lv_iload_n hx hb d_L_asked_6 rfl (lv_at hl 3 rfl) ?_
      refine xt_cV (As := [.int x1, .int x2, .int x3]) (rest := [.int 0, .ref x4]) ⟨hx, hb, hml, hown, hts⟩ hw hM1 hle_u_4 (fun _ _ => ⟨callB_of 3 hts (xgood w_840) rfl rfl rfl (hts _ (xm w_1)) (hts _ (xm w_837)) ⟨by decide, by decide, by decide +kernel⟩ ⟨Nat.le_of_ble_eq_true rfl, Nat.le_of_ble_eq_true rfl⟩, (hts _ (xm w_838)), (hts _ (xm w_839))⟩) (qc := (R_H, F_H, 2)) rfl rfl h2 rfl hl.1 rfl (Nat.le_of_ble_eq_true rfl) d_L_asked_7 (fun q9 ce H locs T9 hw hce hcv hcl hT X9 => ?_)
      refine xt_catch (name := "java/lang/IndexOutOfBoundsException") hown [] ⟨0, 12, 15, 13⟩ [⟨0, 12, 19, 15⟩] (htab.trans rfl) (fun z9 h9 => nomatch h9) (by decide) (by decide) (hts _ (xm w_510)) (hw.2.2.2.2.2.1.cast (List.mem_of_getElem? (i := 521) (by decide +kernel)) _) hce hcv hcl hT X9 ?_
      refine W.eq (g2 := F0 m 15 ls [.ref q9]) rfl ?_
      refine lv_astore (lv' := [(5, .ref q9), (0, .ref x0), (1, .int x1), (2, .int x2), (3, .int x3), (4, .ref x4)]) hx hb d_L_asked_15 hl (by decide) rfl (fun ls hl => ?_)
      refine lv_iconst (v := 1) hx hb d_L_asked_17 (by decide) ?_
      exact xr_iret F rfl hw d_L_asked_18
    ·
      have hle_u_4 : x_le u_4 u_4 := x_le.rf u_4
      have hle_u : x_le u u_4 := (hM1.1).tr hle_u_4
      refine ⟨some (.int 2), u_4, ⟨(2 : Int32), rfl, k⟩, hle_u, ?_⟩
      intro p e s m args below meth c A H locs ls F htab hw hl
      obtain ⟨⟨hx, hb, hml, hown, hts⟩, hr, hlocks, hmn⟩ := id F
      refine lv_aload hx hb d_L_asked_0 (lv_at hl 4 rfl) ?_
      refine lv_iconst (v := 0) hx hb d_L_asked_2 (by decide) ?_
      refine lv_aload_n hx hb d_L_asked_3 rfl (lv_at hl 0 rfl) ?_
      refine lv_iload_n hx hb d_L_asked_4 rfl (lv_at hl 1 rfl) ?_
      refine lv_iload_n hx hb d_L_asked_5 rfl (lv_at hl 2 rfl) ?_
      refine lv_iload_n hx hb d_L_asked_6 rfl (lv_at hl 3 rfl) ?_
      refine xt_cV (As := [.int x1, .int x2, .int x3]) (rest := [.int 0, .ref x4]) ⟨hx, hb, hml, hown, hts⟩ hw hM1 hle_u_4 (fun _ _ => ⟨callB_of 3 hts (xgood w_840) rfl rfl rfl (hts _ (xm w_1)) (hts _ (xm w_837)) ⟨by decide, by decide, by decide +kernel⟩ ⟨Nat.le_of_ble_eq_true rfl, Nat.le_of_ble_eq_true rfl⟩, (hts _ (xm w_838)), (hts _ (xm w_839))⟩) (qc := (R_H, F_H, 2)) rfl rfl h2 rfl hl.1 rfl (Nat.le_of_ble_eq_true rfl) d_L_asked_7 (fun q9 ce H locs T9 hw hce hcv hcl hT X9 => ?_)
      refine xt_catch (name := "java/lang/IllegalArgumentException") hown [⟨0, 12, 15, 13⟩] ⟨0, 12, 19, 15⟩ [] (htab.trans rfl) (fun z9 h9 => by cases List.mem_singleton.mp h9; exact ⟨by decide, "java/lang/IndexOutOfBoundsException", (hts _ (xm w_510)), hw.2.2.2.2.2.1.nocast (by decide +kernel)⟩) (by decide) (by decide) (hts _ (xm w_511)) (hw.2.2.2.2.2.1.cast (List.mem_of_getElem? (i := 591) (by decide +kernel)) _) hce hcv hcl hT X9 ?_
      refine W.eq (g2 := F0 m 19 ls [.ref q9]) rfl ?_
      refine lv_astore (lv' := [(5, .ref q9), (0, .ref x0), (1, .int x1), (2, .int x2), (3, .int x3), (4, .ref x4)]) hx hb d_L_asked_19 hl (by decide) rfl (fun ls hl => ?_)
      refine lv_iconst (v := 2) hx hb d_L_asked_21 (by decide) ?_
      exact xr_iret F rfl hw d_L_asked_22
set_option maxRecDepth 100000 in
set_option maxHeartbeats 4000000 in
theorem c_L_questions (l : Launch) (Z : XZ) (x0 : Nat) (x1 : Int32) (x2 : Nat) (u : PS) (K : Int32 → PS → Prop) (k : p_L_questions x0 x1 x2 u K) : ∃ (rv : Option Value) (u1 : PS), (kI K) rv u1 ∧ XMet l Z i_L_questions [.ref x0, .int x1, .ref x2] u rv u1 := by
  refine x_meth (by decide) rfl (Nat.le_of_ble_eq_true rfl) ?_
  show XNh hh_L_questions l Z i_L_questions u (kI K) u 0 [(0, .ref x0), (1, .int x1), (2, .ref x2)] []
  unfold p_L_questions at k
  obtain ⟨h2, k⟩ := k
  rcases c_H_questions l Z x0 x1 u _ _ k with ⟨_, u_4, ⟨r_5, rfl, k⟩, hM1⟩ | ⟨E9, u_4, k, hM1⟩
  ·
    obtain ⟨u_6, h3, k⟩ := k
    have hle_u_6 : x_le u_6 u_6 := x_le.rf u_6
    have hle_u_4 : x_le u_4 u_6 := (h3.le).tr hle_u_6
    have hle_u : x_le u u_6 := (hM1.1).tr hle_u_4
    refine ⟨some (.int 0), u_6, ⟨(0 : Int32), rfl, k⟩, hle_u, ?_⟩
    intro p e s m args below meth c A H locs ls F htab hw hl
    obtain ⟨⟨hx, hb, hml, hown, hts⟩, hr, hlocks, hmn⟩ := id F
    refine lv_aload_n hx hb d_L_questions_0 rfl (lv_at hl 2 rfl) ?_
    refine lv_iconst (v := 0) hx hb d_L_questions_1 (by decide) ?_
    refine lv_aload_n hx hb d_L_questions_2 rfl (lv_at hl 0 rfl) ?_
    refine lv_iload_n hx hb d_L_questions_3 rfl (lv_at hl 1 rfl) ?_
    refine xr_cV (As := [.int x1]) (rest := [.int 0, .ref x2]) ⟨hx, hb, hml, hown, hts⟩ hw hM1 hle_u_4 (fun _ _ => ⟨callB_of 1 hts (xgood w_856) rfl rfl rfl (hts _ (xm w_1)) (hts _ (xm w_853)) ⟨by decide, by decide, by decide +kernel⟩ ⟨Nat.le_of_ble_eq_true rfl, Nat.le_of_ble_eq_true rfl⟩, (hts _ (xm w_854)), (hts _ (xm w_855))⟩) (qc := (R_H, F_H, 2)) rfl rfl h2 rfl hl.1 rfl (Nat.le_of_ble_eq_true rfl) d_L_questions_4 (fun H locs hw => ?_)
    refine W.eq (g2 := F0 m 7 ls [.int r_5, .int 0, .ref x2]) rfl ?_
    refine lv_i2l hx hb d_L_questions_7 rfl ?_
    refine xr_last hx hb hw h3 d_L_questions_8 (fun H locs hw => ?_)
    refine lv_goto (tgt := 15) hx hb d_L_questions_9 (by decide) ?_
    refine lv_iconst (v := 0) hx hb d_L_questions_15 (by decide) ?_
    exact xr_iret F rfl hw d_L_questions_16
  ·
    rcases k with ⟨rfl, k⟩
    have hle_u_4 : x_le u_4 u_4 := x_le.rf u_4
    have hle_u : x_le u u_4 := (hM1.1).tr hle_u_4
    refine ⟨some (.int 1), u_4, ⟨(1 : Int32), rfl, k⟩, hle_u, ?_⟩
    intro p e s m args below meth c A H locs ls F htab hw hl
    obtain ⟨⟨hx, hb, hml, hown, hts⟩, hr, hlocks, hmn⟩ := id F
    refine lv_aload_n hx hb d_L_questions_0 rfl (lv_at hl 2 rfl) ?_
    refine lv_iconst (v := 0) hx hb d_L_questions_1 (by decide) ?_
    refine lv_aload_n hx hb d_L_questions_2 rfl (lv_at hl 0 rfl) ?_
    refine lv_iload_n hx hb d_L_questions_3 rfl (lv_at hl 1 rfl) ?_
    refine xt_cV (As := [.int x1]) (rest := [.int 0, .ref x2]) ⟨hx, hb, hml, hown, hts⟩ hw hM1 hle_u_4 (fun _ _ => ⟨callB_of 1 hts (xgood w_856) rfl rfl rfl (hts _ (xm w_1)) (hts _ (xm w_853)) ⟨by decide, by decide, by decide +kernel⟩ ⟨Nat.le_of_ble_eq_true rfl, Nat.le_of_ble_eq_true rfl⟩, (hts _ (xm w_854)), (hts _ (xm w_855))⟩) (qc := (R_H, F_H, 2)) rfl rfl h2 rfl hl.1 rfl (Nat.le_of_ble_eq_true rfl) d_L_questions_4 (fun q9 ce H locs T9 hw hce hcv hcl hT X9 => ?_)
    refine xt_catch (name := "java/lang/IllegalArgumentException") hown [] ⟨0, 9, 12, 15⟩ [] (htab.trans rfl) (fun z9 h9 => nomatch h9) (by decide) (by decide) (hts _ (xm w_511)) (hw.2.2.2.2.2.1.cast (List.mem_of_getElem? (i := 591) (by decide +kernel)) _) hce hcv hcl hT X9 ?_
    refine W.eq (g2 := F0 m 12 ls [.ref q9]) rfl ?_
    refine lv_astore_n (lv' := [(3, .ref q9), (0, .ref x0), (1, .int x1), (2, .ref x2)]) hx hb d_L_questions_12 rfl hl (by decide) rfl (fun ls hl => ?_)
    refine lv_iconst (v := 1) hx hb d_L_questions_13 (by decide) ?_
    exact xr_iret F rfl hw d_L_questions_14
set_option maxRecDepth 100000 in
set_option maxHeartbeats 4000000 in
theorem t_L_law_J1379 (l : Launch) (Z : XZ) (u0 : PS) (sL : Nat) (xs : Nat → Int32) {Kv : Option Value → PS → Prop} {R : Int32 → PS → Prop} {E175 : PS → Prop} {E223 : PS → Prop} {E295 : PS → Prop} {E367 : PS → Prop} {E439 : PS → Prop} {E511 : PS → Prop} {E599 : PS → Prop} {E671 : PS → Prop} {E722 : PS → Prop} {E739 : PS → Prop} {E778 : PS → Prop} {E795 : PS → Prop} {E811 : PS → Prop} {E847 : PS → Prop} {E864 : PS → Prop} {E903 : PS → Prop} {E920 : PS → Prop} {E959 : PS → Prop} {E976 : PS → Prop} {E1027 : PS → Prop} {E1051 : PS → Prop} {E1090 : PS → Prop} {E1107 : PS → Prop} {E1146 : PS → Prop} {E1163 : PS → Prop} {E1214 : PS → Prop} {E1238 : PS → Prop} {E1301 : PS → Prop} {E1318 : PS → Prop} {E1357 : PS → Prop} {E1374 : PS → Prop} {E1385 : PS → Prop} (x0 : Nat) (x1 : Nat) (x2 : Nat) (x3 : Nat) (x4 : Int32) (u : PS) (hR : ∀ (y4 : Int32) (v : PS), R y4 v → XNl x0 sL xs l Z i_L_law u0 Kv v 23 [(0, .ref x0), (1, .ref x1), (2, .ref x2), (3, .ref x3), (4, .int y4)] []) (hE175 : ∀ (v : PS), E175 v → XNl x0 sL xs l Z i_L_law u0 Kv v 175 [] []) (hE223 : ∀ (v : PS), E223 v → XNl x0 sL xs l Z i_L_law u0 Kv v 223 [] []) (hE295 : ∀ (v : PS), E295 v → XNl x0 sL xs l Z i_L_law u0 Kv v 295 [] []) (hE367 : ∀ (v : PS), E367 v → XNl x0 sL xs l Z i_L_law u0 Kv v 367 [] []) (hE439 : ∀ (v : PS), E439 v → XNl x0 sL xs l Z i_L_law u0 Kv v 439 [] []) (hE511 : ∀ (v : PS), E511 v → XNl x0 sL xs l Z i_L_law u0 Kv v 511 [] []) (hE599 : ∀ (v : PS), E599 v → XNl x0 sL xs l Z i_L_law u0 Kv v 599 [] []) (hE671 : ∀ (v : PS), E671 v → XNl x0 sL xs l Z i_L_law u0 Kv v 671 [] []) (hE722 : ∀ (v : PS), E722 v → XNl x0 sL xs l Z i_L_law u0 Kv v 722 [] []) (hE739 : ∀ (v : PS), E739 v → XNl x0 sL xs l Z i_L_law u0 Kv v 739 [] []) (hE778 : ∀ (v : PS), E778 v → XNl x0 sL xs l Z i_L_law u0 Kv v 778 [] []) (hE795 : ∀ (v : PS), E795 v → XNl x0 sL xs l Z i_L_law u0 Kv v 795 [] []) (hE811 : ∀ (v : PS), E811 v → XNl x0 sL xs l Z i_L_law u0 Kv v 811 [] []) (hE847 : ∀ (v : PS), E847 v → XNl x0 sL xs l Z i_L_law u0 Kv v 847 [] []) (hE864 : ∀ (v : PS), E864 v → XNl x0 sL xs l Z i_L_law u0 Kv v 864 [] []) (hE903 : ∀ (v : PS), E903 v → XNl x0 sL xs l Z i_L_law u0 Kv v 903 [] []) (hE920 : ∀ (v : PS), E920 v → XNl x0 sL xs l Z i_L_law u0 Kv v 920 [] []) (hE959 : ∀ (v : PS), E959 v → XNl x0 sL xs l Z i_L_law u0 Kv v 959 [] []) (hE976 : ∀ (v : PS), E976 v → XNl x0 sL xs l Z i_L_law u0 Kv v 976 [] []) (hE1027 : ∀ (v : PS), E1027 v → XNl x0 sL xs l Z i_L_law u0 Kv v 1027 [] []) (hE1051 : ∀ (v : PS), E1051 v → XNl x0 sL xs l Z i_L_law u0 Kv v 1051 [] []) (hE1090 : ∀ (v : PS), E1090 v → XNl x0 sL xs l Z i_L_law u0 Kv v 1090 [] []) (hE1107 : ∀ (v : PS), E1107 v → XNl x0 sL xs l Z i_L_law u0 Kv v 1107 [] []) (hE1146 : ∀ (v : PS), E1146 v → XNl x0 sL xs l Z i_L_law u0 Kv v 1146 [] []) (hE1163 : ∀ (v : PS), E1163 v → XNl x0 sL xs l Z i_L_law u0 Kv v 1163 [] []) (hE1214 : ∀ (v : PS), E1214 v → XNl x0 sL xs l Z i_L_law u0 Kv v 1214 [] []) (hE1238 : ∀ (v : PS), E1238 v → XNl x0 sL xs l Z i_L_law u0 Kv v 1238 [] []) (hE1301 : ∀ (v : PS), E1301 v → XNl x0 sL xs l Z i_L_law u0 Kv v 1301 [] []) (hE1318 : ∀ (v : PS), E1318 v → XNl x0 sL xs l Z i_L_law u0 Kv v 1318 [] []) (hE1357 : ∀ (v : PS), E1357 v → XNl x0 sL xs l Z i_L_law u0 Kv v 1357 [] []) (hE1374 : ∀ (v : PS), E1374 v → XNl x0 sL xs l Z i_L_law u0 Kv v 1374 [] []) (hE1385 : ∀ (v : PS), E1385 v → XNl x0 sL xs l Z i_L_law u0 Kv v 1385 [] []) (k : (p_L_law_J1379 sL xs R E175 E223 E295 E367 E439 E511 E599 E671 E722 E739 E778 E795 E811 E847 E864 E903 E920 E959 E976 E1027 E1051 E1090 E1107 E1146 E1163 E1214 E1238 E1301 E1318 E1357 E1374 E1385 x0 x1 x2 x3 x4 u)) : XNl x0 sL xs l Z i_L_law u0 Kv u 1379 [(0, .ref x0), (1, .ref x1), (2, .ref x2), (3, .ref x3), (4, .int x4)] [] := by
  unfold p_L_law_J1379 at k
  obtain ⟨y1, ey1⟩ : ∃ y9 : Int32, y9 = x4 + 5 := ⟨_, rfl⟩
  have k := k y1 ey1
  obtain ⟨rv, v9, hK, hle_u, w9⟩ := hR y1 u k
  refine ⟨rv, v9, hK, hle_u, ?_⟩
  intro p e s m args below meth c A H locs ls F hX hw hl
  obtain ⟨⟨hx, hb, hml, hown, hts⟩, hr, hlocks, hmn⟩ := id F
  refine lv_iinc (v := y1) (lv' := [(4, .int y1), (0, .ref x0), (1, .ref x1), (2, .ref x2), (3, .ref x3)]) hx hb d_L_law_1379 hl (k := 4) rfl (by subst ey1; rfl) (by decide) rfl (fun ls hl => ?_)
  refine lv_goto (tgt := 23) hx hb d_L_law_1382 (by decide) ?_
  exact w9 p e s m args below meth c A H locs ls F hX hw (lv_sub hl [1, 2, 3, 4, 0] rfl)
set_option maxRecDepth 100000 in
set_option maxHeartbeats 4000000 in
theorem t_L_law_J587 (l : Launch) (Z : XZ) (u0 : PS) (sL : Nat) (xs : Nat → Int32) {Kv : Option Value → PS → Prop} {R : Int32 → PS → Prop} {E175 : PS → Prop} {E223 : PS → Prop} {E295 : PS → Prop} {E367 : PS → Prop} {E439 : PS → Prop} {E511 : PS → Prop} {E599 : PS → Prop} {E671 : PS → Prop} {E722 : PS → Prop} {E739 : PS → Prop} {E778 : PS → Prop} {E795 : PS → Prop} {E811 : PS → Prop} {E847 : PS → Prop} {E864 : PS → Prop} {E903 : PS → Prop} {E920 : PS → Prop} {E959 : PS → Prop} {E976 : PS → Prop} {E1027 : PS → Prop} {E1051 : PS → Prop} {E1090 : PS → Prop} {E1107 : PS → Prop} {E1146 : PS → Prop} {E1163 : PS → Prop} {E1214 : PS → Prop} {E1238 : PS → Prop} {E1301 : PS → Prop} {E1318 : PS → Prop} {E1357 : PS → Prop} {E1374 : PS → Prop} {E1385 : PS → Prop} (x0 : Nat) (x1 : Nat) (x2 : Nat) (x3 : Nat) (x4 : Int32) (x5 : Int32) (s0 : Nat) (s1 : Int32) (s2 : Int32) (s3 : Int32) (s4 : Int32) (u : PS) (hR : ∀ (y4 : Int32) (v : PS), R y4 v → XNl x0 sL xs l Z i_L_law u0 Kv v 23 [(0, .ref x0), (1, .ref x1), (2, .ref x2), (3, .ref x3), (4, .int y4)] []) (hE175 : ∀ (v : PS), E175 v → XNl x0 sL xs l Z i_L_law u0 Kv v 175 [] []) (hE223 : ∀ (v : PS), E223 v → XNl x0 sL xs l Z i_L_law u0 Kv v 223 [] []) (hE295 : ∀ (v : PS), E295 v → XNl x0 sL xs l Z i_L_law u0 Kv v 295 [] []) (hE367 : ∀ (v : PS), E367 v → XNl x0 sL xs l Z i_L_law u0 Kv v 367 [] []) (hE439 : ∀ (v : PS), E439 v → XNl x0 sL xs l Z i_L_law u0 Kv v 439 [] []) (hE511 : ∀ (v : PS), E511 v → XNl x0 sL xs l Z i_L_law u0 Kv v 511 [] []) (hE599 : ∀ (v : PS), E599 v → XNl x0 sL xs l Z i_L_law u0 Kv v 599 [] []) (hE671 : ∀ (v : PS), E671 v → XNl x0 sL xs l Z i_L_law u0 Kv v 671 [] []) (hE722 : ∀ (v : PS), E722 v → XNl x0 sL xs l Z i_L_law u0 Kv v 722 [] []) (hE739 : ∀ (v : PS), E739 v → XNl x0 sL xs l Z i_L_law u0 Kv v 739 [] []) (hE778 : ∀ (v : PS), E778 v → XNl x0 sL xs l Z i_L_law u0 Kv v 778 [] []) (hE795 : ∀ (v : PS), E795 v → XNl x0 sL xs l Z i_L_law u0 Kv v 795 [] []) (hE811 : ∀ (v : PS), E811 v → XNl x0 sL xs l Z i_L_law u0 Kv v 811 [] []) (hE847 : ∀ (v : PS), E847 v → XNl x0 sL xs l Z i_L_law u0 Kv v 847 [] []) (hE864 : ∀ (v : PS), E864 v → XNl x0 sL xs l Z i_L_law u0 Kv v 864 [] []) (hE903 : ∀ (v : PS), E903 v → XNl x0 sL xs l Z i_L_law u0 Kv v 903 [] []) (hE920 : ∀ (v : PS), E920 v → XNl x0 sL xs l Z i_L_law u0 Kv v 920 [] []) (hE959 : ∀ (v : PS), E959 v → XNl x0 sL xs l Z i_L_law u0 Kv v 959 [] []) (hE976 : ∀ (v : PS), E976 v → XNl x0 sL xs l Z i_L_law u0 Kv v 976 [] []) (hE1027 : ∀ (v : PS), E1027 v → XNl x0 sL xs l Z i_L_law u0 Kv v 1027 [] []) (hE1051 : ∀ (v : PS), E1051 v → XNl x0 sL xs l Z i_L_law u0 Kv v 1051 [] []) (hE1090 : ∀ (v : PS), E1090 v → XNl x0 sL xs l Z i_L_law u0 Kv v 1090 [] []) (hE1107 : ∀ (v : PS), E1107 v → XNl x0 sL xs l Z i_L_law u0 Kv v 1107 [] []) (hE1146 : ∀ (v : PS), E1146 v → XNl x0 sL xs l Z i_L_law u0 Kv v 1146 [] []) (hE1163 : ∀ (v : PS), E1163 v → XNl x0 sL xs l Z i_L_law u0 Kv v 1163 [] []) (hE1214 : ∀ (v : PS), E1214 v → XNl x0 sL xs l Z i_L_law u0 Kv v 1214 [] []) (hE1238 : ∀ (v : PS), E1238 v → XNl x0 sL xs l Z i_L_law u0 Kv v 1238 [] []) (hE1301 : ∀ (v : PS), E1301 v → XNl x0 sL xs l Z i_L_law u0 Kv v 1301 [] []) (hE1318 : ∀ (v : PS), E1318 v → XNl x0 sL xs l Z i_L_law u0 Kv v 1318 [] []) (hE1357 : ∀ (v : PS), E1357 v → XNl x0 sL xs l Z i_L_law u0 Kv v 1357 [] []) (hE1374 : ∀ (v : PS), E1374 v → XNl x0 sL xs l Z i_L_law u0 Kv v 1374 [] []) (hE1385 : ∀ (v : PS), E1385 v → XNl x0 sL xs l Z i_L_law u0 Kv v 1385 [] []) (k : (p_L_law_J587 sL xs R E175 E223 E295 E367 E439 E511 E599 E671 E722 E739 E778 E795 E811 E847 E864 E903 E920 E959 E976 E1027 E1051 E1090 E1107 E1146 E1163 E1214 E1238 E1301 E1318 E1357 E1374 E1385 x0 x1 x2 x3 x4 x5 s0 s1 s2 s3 s4 u)) : XNl x0 sL xs l Z i_L_law u0 Kv u 587 [(0, .ref x0), (1, .ref x1), (2, .ref x2), (3, .ref x3), (4, .int x4), (5, .int x5)] [.int s4, .int s3, .int s2, .int s1, .ref s0] := by
  unfold p_L_law_J587 at k
  obtain ⟨h2, k⟩ := k
  obtain ⟨_, u_342, ⟨rfl, k⟩, hM1⟩ := c_M_quantify l Z s0 s1 s2 s3 s4 u _ k
  obtain ⟨h4, k⟩ := k
  obtain ⟨_, u_343, ⟨r_344, rfl, k⟩, hM3⟩ := c_M_thrown l Z x2 u_342 _ k
  by_cases hc5 : r_344 = x5
  · have k := k.1 hc5
    obtain ⟨rv, v9, hK, hle_u_343, w9⟩ := t_L_law_J1379 l Z u0 sL xs x0 x1 x2 x3 x4 u_343 hR hE175 hE223 hE295 hE367 hE439 hE511 hE599 hE671 hE722 hE739 hE778 hE795 hE811 hE847 hE864 hE903 hE920 hE959 hE976 hE1027 hE1051 hE1090 hE1107 hE1146 hE1163 hE1214 hE1238 hE1301 hE1318 hE1357 hE1374 hE1385 k
    have hle_u_342 : x_le u_342 v9 := (hM3.1).tr hle_u_343
    have hle_u : x_le u v9 := (hM1.1).tr hle_u_342
    refine ⟨rv, v9, hK, hle_u, ?_⟩
    intro p e s m args below meth c A H locs ls F hX hw hl
    obtain ⟨⟨hx, hb, hml, hown, hts⟩, hr, hlocks, hmn⟩ := id F
    refine xr_cV (As := [.int s1, .int s2, .int s3, .int s4]) (rest := []) ⟨hx, hb, hml, hown, hts⟩ hw hM1 hle_u_342 (fun _ _ => ⟨callB_of 4 hts (xgood w_967) rfl rfl rfl (hts _ (xm w_8)) (hts _ (xm w_964)) ⟨by decide, by decide, by decide +kernel⟩ ⟨Nat.le_of_ble_eq_true rfl, Nat.le_of_ble_eq_true rfl⟩, (hts _ (xm w_965)), (hts _ (xm w_966))⟩) (qc := (R_M, F_M, 14)) rfl rfl h2 rfl hl.1 rfl (Nat.le_of_ble_eq_true rfl) d_L_law_587 (fun H locs hw => ?_)
    refine W.eq (g2 := F0 m 590 ls []) rfl ?_
    refine lv_aload_n hx hb d_L_law_590 rfl (lv_at hl 2 rfl) ?_
    refine xr_cV (As := []) (rest := []) ⟨hx, hb, hml, hown, hts⟩ hw hM3 hle_u_343 (fun _ _ => ⟨callB_of 0 hts (xgood w_915) rfl rfl rfl (hts _ (xm w_8)) (hts _ (xm w_912)) ⟨by decide, by decide, by decide +kernel⟩ ⟨Nat.le_of_ble_eq_true rfl, Nat.le_of_ble_eq_true rfl⟩, (hts _ (xm w_913)), (hts _ (xm w_914))⟩) (qc := (R_M, F_M, 14)) rfl rfl h4 rfl hl.1 rfl (Nat.le_of_ble_eq_true rfl) d_L_law_591 (fun H locs hw => ?_)
    refine W.eq (g2 := F0 m 594 ls [.int r_344]) rfl ?_
    refine lv_iload hx hb d_L_law_594 (lv_at hl 5 rfl) ?_
    refine lv_icmp_eq (tgt := 601) hx hb d_L_law_596 (by decide) (fun _ => ?_) (fun c9 => absurd hc5 c9)
    refine lv_goto (tgt := 1379) hx hb d_L_law_601 (by decide) ?_
    exact w9 p e s m args below meth c A H locs ls F hX hw (lv_sub hl [0, 1, 2, 3, 4] rfl)
  · have k := k.2 hc5
    obtain ⟨rv, v9, hK, hle_u_343, w9⟩ := hE599 u_343 k
    have hle_u_342 : x_le u_342 v9 := (hM3.1).tr hle_u_343
    have hle_u : x_le u v9 := (hM1.1).tr hle_u_342
    refine ⟨rv, v9, hK, hle_u, ?_⟩
    intro p e s m args below meth c A H locs ls F hX hw hl
    obtain ⟨⟨hx, hb, hml, hown, hts⟩, hr, hlocks, hmn⟩ := id F
    refine xr_cV (As := [.int s1, .int s2, .int s3, .int s4]) (rest := []) ⟨hx, hb, hml, hown, hts⟩ hw hM1 hle_u_342 (fun _ _ => ⟨callB_of 4 hts (xgood w_967) rfl rfl rfl (hts _ (xm w_8)) (hts _ (xm w_964)) ⟨by decide, by decide, by decide +kernel⟩ ⟨Nat.le_of_ble_eq_true rfl, Nat.le_of_ble_eq_true rfl⟩, (hts _ (xm w_965)), (hts _ (xm w_966))⟩) (qc := (R_M, F_M, 14)) rfl rfl h2 rfl hl.1 rfl (Nat.le_of_ble_eq_true rfl) d_L_law_587 (fun H locs hw => ?_)
    refine W.eq (g2 := F0 m 590 ls []) rfl ?_
    refine lv_aload_n hx hb d_L_law_590 rfl (lv_at hl 2 rfl) ?_
    refine xr_cV (As := []) (rest := []) ⟨hx, hb, hml, hown, hts⟩ hw hM3 hle_u_343 (fun _ _ => ⟨callB_of 0 hts (xgood w_915) rfl rfl rfl (hts _ (xm w_8)) (hts _ (xm w_912)) ⟨by decide, by decide, by decide +kernel⟩ ⟨Nat.le_of_ble_eq_true rfl, Nat.le_of_ble_eq_true rfl⟩, (hts _ (xm w_913)), (hts _ (xm w_914))⟩) (qc := (R_M, F_M, 14)) rfl rfl h4 rfl hl.1 rfl (Nat.le_of_ble_eq_true rfl) d_L_law_591 (fun H locs hw => ?_)
    refine W.eq (g2 := F0 m 594 ls [.int r_344]) rfl ?_
    refine lv_iload hx hb d_L_law_594 (lv_at hl 5 rfl) ?_
    refine lv_icmp_eq (tgt := 601) hx hb d_L_law_596 (by decide) (fun c9 => absurd c9 hc5) (fun _ => ?_)
    exact w9 p e s m args below meth c A H locs ls F hX hw (lv_sub hl [] rfl)
set_option maxRecDepth 100000 in
set_option maxHeartbeats 4000000 in
theorem t_L_law_J549 (l : Launch) (Z : XZ) (u0 : PS) (sL : Nat) (xs : Nat → Int32) {Kv : Option Value → PS → Prop} {R : Int32 → PS → Prop} {E175 : PS → Prop} {E223 : PS → Prop} {E295 : PS → Prop} {E367 : PS → Prop} {E439 : PS → Prop} {E511 : PS → Prop} {E599 : PS → Prop} {E671 : PS → Prop} {E722 : PS → Prop} {E739 : PS → Prop} {E778 : PS → Prop} {E795 : PS → Prop} {E811 : PS → Prop} {E847 : PS → Prop} {E864 : PS → Prop} {E903 : PS → Prop} {E920 : PS → Prop} {E959 : PS → Prop} {E976 : PS → Prop} {E1027 : PS → Prop} {E1051 : PS → Prop} {E1090 : PS → Prop} {E1107 : PS → Prop} {E1146 : PS → Prop} {E1163 : PS → Prop} {E1214 : PS → Prop} {E1238 : PS → Prop} {E1301 : PS → Prop} {E1318 : PS → Prop} {E1357 : PS → Prop} {E1374 : PS → Prop} {E1385 : PS → Prop} (x0 : Nat) (x1 : Nat) (x2 : Nat) (x3 : Nat) (x4 : Int32) (s0 : Nat) (s1 : Int32) (s2 : Int32) (s3 : Int32) (s4 : Int32) (u : PS) (hR : ∀ (y4 : Int32) (v : PS), R y4 v → XNl x0 sL xs l Z i_L_law u0 Kv v 23 [(0, .ref x0), (1, .ref x1), (2, .ref x2), (3, .ref x3), (4, .int y4)] []) (hE175 : ∀ (v : PS), E175 v → XNl x0 sL xs l Z i_L_law u0 Kv v 175 [] []) (hE223 : ∀ (v : PS), E223 v → XNl x0 sL xs l Z i_L_law u0 Kv v 223 [] []) (hE295 : ∀ (v : PS), E295 v → XNl x0 sL xs l Z i_L_law u0 Kv v 295 [] []) (hE367 : ∀ (v : PS), E367 v → XNl x0 sL xs l Z i_L_law u0 Kv v 367 [] []) (hE439 : ∀ (v : PS), E439 v → XNl x0 sL xs l Z i_L_law u0 Kv v 439 [] []) (hE511 : ∀ (v : PS), E511 v → XNl x0 sL xs l Z i_L_law u0 Kv v 511 [] []) (hE599 : ∀ (v : PS), E599 v → XNl x0 sL xs l Z i_L_law u0 Kv v 599 [] []) (hE671 : ∀ (v : PS), E671 v → XNl x0 sL xs l Z i_L_law u0 Kv v 671 [] []) (hE722 : ∀ (v : PS), E722 v → XNl x0 sL xs l Z i_L_law u0 Kv v 722 [] []) (hE739 : ∀ (v : PS), E739 v → XNl x0 sL xs l Z i_L_law u0 Kv v 739 [] []) (hE778 : ∀ (v : PS), E778 v → XNl x0 sL xs l Z i_L_law u0 Kv v 778 [] []) (hE795 : ∀ (v : PS), E795 v → XNl x0 sL xs l Z i_L_law u0 Kv v 795 [] []) (hE811 : ∀ (v : PS), E811 v → XNl x0 sL xs l Z i_L_law u0 Kv v 811 [] []) (hE847 : ∀ (v : PS), E847 v → XNl x0 sL xs l Z i_L_law u0 Kv v 847 [] []) (hE864 : ∀ (v : PS), E864 v → XNl x0 sL xs l Z i_L_law u0 Kv v 864 [] []) (hE903 : ∀ (v : PS), E903 v → XNl x0 sL xs l Z i_L_law u0 Kv v 903 [] []) (hE920 : ∀ (v : PS), E920 v → XNl x0 sL xs l Z i_L_law u0 Kv v 920 [] []) (hE959 : ∀ (v : PS), E959 v → XNl x0 sL xs l Z i_L_law u0 Kv v 959 [] []) (hE976 : ∀ (v : PS), E976 v → XNl x0 sL xs l Z i_L_law u0 Kv v 976 [] []) (hE1027 : ∀ (v : PS), E1027 v → XNl x0 sL xs l Z i_L_law u0 Kv v 1027 [] []) (hE1051 : ∀ (v : PS), E1051 v → XNl x0 sL xs l Z i_L_law u0 Kv v 1051 [] []) (hE1090 : ∀ (v : PS), E1090 v → XNl x0 sL xs l Z i_L_law u0 Kv v 1090 [] []) (hE1107 : ∀ (v : PS), E1107 v → XNl x0 sL xs l Z i_L_law u0 Kv v 1107 [] []) (hE1146 : ∀ (v : PS), E1146 v → XNl x0 sL xs l Z i_L_law u0 Kv v 1146 [] []) (hE1163 : ∀ (v : PS), E1163 v → XNl x0 sL xs l Z i_L_law u0 Kv v 1163 [] []) (hE1214 : ∀ (v : PS), E1214 v → XNl x0 sL xs l Z i_L_law u0 Kv v 1214 [] []) (hE1238 : ∀ (v : PS), E1238 v → XNl x0 sL xs l Z i_L_law u0 Kv v 1238 [] []) (hE1301 : ∀ (v : PS), E1301 v → XNl x0 sL xs l Z i_L_law u0 Kv v 1301 [] []) (hE1318 : ∀ (v : PS), E1318 v → XNl x0 sL xs l Z i_L_law u0 Kv v 1318 [] []) (hE1357 : ∀ (v : PS), E1357 v → XNl x0 sL xs l Z i_L_law u0 Kv v 1357 [] []) (hE1374 : ∀ (v : PS), E1374 v → XNl x0 sL xs l Z i_L_law u0 Kv v 1374 [] []) (hE1385 : ∀ (v : PS), E1385 v → XNl x0 sL xs l Z i_L_law u0 Kv v 1385 [] []) (k : (p_L_law_J549 sL xs R E175 E223 E295 E367 E439 E511 E599 E671 E722 E739 E778 E795 E811 E847 E864 E903 E920 E959 E976 E1027 E1051 E1090 E1107 E1146 E1163 E1214 E1238 E1301 E1318 E1357 E1374 E1385 x0 x1 x2 x3 x4 s0 s1 s2 s3 s4 u)) : XNl x0 sL xs l Z i_L_law u0 Kv u 549 [(0, .ref x0), (1, .ref x1), (2, .ref x2), (3, .ref x3), (4, .int x4)] [.int s4, .int s3, .int s2, .int s1, .ref s0] := by
  unfold p_L_law_J549 at k
  obtain ⟨_, u_336, ⟨r_337, rfl, k⟩, hM1⟩ := c_L_quantify l Z s0 s1 s2 s3 s4 u _ k
  obtain ⟨h2, k⟩ := k
  obtain ⟨h3, k⟩ := k
  obtain ⟨h4, k⟩ := k
  obtain ⟨h5, k⟩ := k
  by_cases hc6 : (xs (x4 + (4 : Int32)).toNatClampNeg) = 0
  · have k := k.1 hc6
    obtain ⟨rv, v9, hK, hle_u_336, w9⟩ := t_L_law_J587 l Z u0 sL xs x0 x1 x2 x3 x4 r_337 x2 (xs (x4 + (1 : Int32)).toNatClampNeg) (xs (x4 + (2 : Int32)).toNatClampNeg) (xs (x4 + (3 : Int32)).toNatClampNeg) (0 : Int32) u_336 hR hE175 hE223 hE295 hE367 hE439 hE511 hE599 hE671 hE722 hE739 hE778 hE795 hE811 hE847 hE864 hE903 hE920 hE959 hE976 hE1027 hE1051 hE1090 hE1107 hE1146 hE1163 hE1214 hE1238 hE1301 hE1318 hE1357 hE1374 hE1385 k
    have hle_u : x_le u v9 := (hM1.1).tr hle_u_336
    refine ⟨rv, v9, hK, hle_u, ?_⟩
    intro p e s m args below meth c A H locs ls F hX hw hl
    obtain ⟨⟨hx, hb, hml, hown, hts⟩, hr, hlocks, hmn⟩ := id F
    refine xr_cSW (n := 5) (hh := hh_L_quantify) (As := [.ref s0, .int s1, .int s2, .int s3, .int s4]) (rest := []) ⟨hx, hb, hml, hown, hts⟩ hw hM1 hle_u_336 (xgood w_702) List.mem_cons_self (hts _ (xm w_0)) (hts _ (xm w_700)) (hts _ (xm w_701)) ⟨by decide, by decide, by decide +kernel⟩ ⟨Nat.le_of_ble_eq_true rfl, Nat.le_of_ble_eq_true rfl⟩ ⟨Nat.le_refl _, Nat.le_refl _⟩ rfl hl.1 rfl (Nat.le_of_ble_eq_true rfl) d_L_law_549 (fun H locs hw => ?_)
    refine W.eq (g2 := F0 m 552 ls [.int r_337]) rfl ?_
    refine lv_istore (lv' := [(5, .int r_337), (0, .ref x0), (1, .ref x1), (2, .ref x2), (3, .ref x3), (4, .int x4)]) hx hb d_L_law_552 hl (by decide) rfl (fun ls hl => ?_)
    refine lv_aload_n hx hb d_L_law_554 rfl (lv_at hl 3 rfl) ?_
    refine lv_aload_n hx hb d_L_law_555 rfl (lv_at hl 1 rfl) ?_
    refine lv_iload hx hb d_L_law_556 (lv_at hl 5 rfl) ?_
    refine lv_iconst (v := 1) hx hb d_L_law_558 (by decide) ?_
    refine lv_iadd hx hb d_L_law_559 ?_
    refine xr_sld hx hb hX hw h2 d_L_law_560 ?_
    refine lv_aload_n hx hb d_L_law_561 rfl (lv_at hl 1 rfl) ?_
    refine lv_iload hx hb d_L_law_562 (lv_at hl 5 rfl) ?_
    refine lv_iconst (v := 2) hx hb d_L_law_564 (by decide) ?_
    refine lv_iadd hx hb d_L_law_565 ?_
    refine xr_sld hx hb hX hw h3 d_L_law_566 ?_
    refine lv_aload_n hx hb d_L_law_567 rfl (lv_at hl 1 rfl) ?_
    refine lv_iload hx hb d_L_law_568 (lv_at hl 5 rfl) ?_
    refine lv_iconst (v := 3) hx hb d_L_law_570 (by decide) ?_
    refine lv_iadd hx hb d_L_law_571 ?_
    refine xr_sld hx hb hX hw h4 d_L_law_572 ?_
    refine lv_aload_n hx hb d_L_law_573 rfl (lv_at hl 1 rfl) ?_
    refine lv_iload hx hb d_L_law_574 (lv_at hl 5 rfl) ?_
    refine lv_iconst (v := 4) hx hb d_L_law_576 (by decide) ?_
    refine lv_iadd hx hb d_L_law_577 ?_
    refine xr_sld hx hb hX hw h5 d_L_law_578 ?_
    refine lv_if_eq (tgt := 586) hx hb d_L_law_579 (by decide) (fun _ => ?_) (fun c9 => absurd hc6 c9)
    refine lv_iconst (v := 0) hx hb d_L_law_586 (by decide) ?_
    exact w9 p e s m args below meth c A H locs ls F hX hw (lv_sub hl [1, 2, 3, 4, 5, 0] rfl)
  · have k := k.2 hc6
    obtain ⟨rv, v9, hK, hle_u_336, w9⟩ := t_L_law_J587 l Z u0 sL xs x0 x1 x2 x3 x4 r_337 x2 (xs (x4 + (1 : Int32)).toNatClampNeg) (xs (x4 + (2 : Int32)).toNatClampNeg) (xs (x4 + (3 : Int32)).toNatClampNeg) (1 : Int32) u_336 hR hE175 hE223 hE295 hE367 hE439 hE511 hE599 hE671 hE722 hE739 hE778 hE795 hE811 hE847 hE864 hE903 hE920 hE959 hE976 hE1027 hE1051 hE1090 hE1107 hE1146 hE1163 hE1214 hE1238 hE1301 hE1318 hE1357 hE1374 hE1385 k
    have hle_u : x_le u v9 := (hM1.1).tr hle_u_336
    refine ⟨rv, v9, hK, hle_u, ?_⟩
    intro p e s m args below meth c A H locs ls F hX hw hl
    obtain ⟨⟨hx, hb, hml, hown, hts⟩, hr, hlocks, hmn⟩ := id F
    refine xr_cSW (n := 5) (hh := hh_L_quantify) (As := [.ref s0, .int s1, .int s2, .int s3, .int s4]) (rest := []) ⟨hx, hb, hml, hown, hts⟩ hw hM1 hle_u_336 (xgood w_702) List.mem_cons_self (hts _ (xm w_0)) (hts _ (xm w_700)) (hts _ (xm w_701)) ⟨by decide, by decide, by decide +kernel⟩ ⟨Nat.le_of_ble_eq_true rfl, Nat.le_of_ble_eq_true rfl⟩ ⟨Nat.le_refl _, Nat.le_refl _⟩ rfl hl.1 rfl (Nat.le_of_ble_eq_true rfl) d_L_law_549 (fun H locs hw => ?_)
    refine W.eq (g2 := F0 m 552 ls [.int r_337]) rfl ?_
    refine lv_istore (lv' := [(5, .int r_337), (0, .ref x0), (1, .ref x1), (2, .ref x2), (3, .ref x3), (4, .int x4)]) hx hb d_L_law_552 hl (by decide) rfl (fun ls hl => ?_)
    refine lv_aload_n hx hb d_L_law_554 rfl (lv_at hl 3 rfl) ?_
    refine lv_aload_n hx hb d_L_law_555 rfl (lv_at hl 1 rfl) ?_
    refine lv_iload hx hb d_L_law_556 (lv_at hl 5 rfl) ?_
    refine lv_iconst (v := 1) hx hb d_L_law_558 (by decide) ?_
    refine lv_iadd hx hb d_L_law_559 ?_
    refine xr_sld hx hb hX hw h2 d_L_law_560 ?_
    refine lv_aload_n hx hb d_L_law_561 rfl (lv_at hl 1 rfl) ?_
    refine lv_iload hx hb d_L_law_562 (lv_at hl 5 rfl) ?_
    refine lv_iconst (v := 2) hx hb d_L_law_564 (by decide) ?_
    refine lv_iadd hx hb d_L_law_565 ?_
    refine xr_sld hx hb hX hw h3 d_L_law_566 ?_
    refine lv_aload_n hx hb d_L_law_567 rfl (lv_at hl 1 rfl) ?_
    refine lv_iload hx hb d_L_law_568 (lv_at hl 5 rfl) ?_
    refine lv_iconst (v := 3) hx hb d_L_law_570 (by decide) ?_
    refine lv_iadd hx hb d_L_law_571 ?_
    refine xr_sld hx hb hX hw h4 d_L_law_572 ?_
    refine lv_aload_n hx hb d_L_law_573 rfl (lv_at hl 1 rfl) ?_
    refine lv_iload hx hb d_L_law_574 (lv_at hl 5 rfl) ?_
    refine lv_iconst (v := 4) hx hb d_L_law_576 (by decide) ?_
    refine lv_iadd hx hb d_L_law_577 ?_
    refine xr_sld hx hb hX hw h5 d_L_law_578 ?_
    refine lv_if_eq (tgt := 586) hx hb d_L_law_579 (by decide) (fun c9 => absurd c9 hc6) (fun _ => ?_)
    refine lv_iconst (v := 1) hx hb d_L_law_582 (by decide) ?_
    refine lv_goto (tgt := 587) hx hb d_L_law_583 (by decide) ?_
    exact w9 p e s m args below meth c A H locs ls F hX hw (lv_sub hl [1, 2, 3, 4, 5, 0] rfl)
set_option maxRecDepth 100000 in
set_option maxHeartbeats 4000000 in
theorem t_L_law_J741 (l : Launch) (Z : XZ) (u0 : PS) (sL : Nat) (xs : Nat → Int32) {Kv : Option Value → PS → Prop} {R : Int32 → PS → Prop} {E175 : PS → Prop} {E223 : PS → Prop} {E295 : PS → Prop} {E367 : PS → Prop} {E439 : PS → Prop} {E511 : PS → Prop} {E599 : PS → Prop} {E671 : PS → Prop} {E722 : PS → Prop} {E739 : PS → Prop} {E778 : PS → Prop} {E795 : PS → Prop} {E811 : PS → Prop} {E847 : PS → Prop} {E864 : PS → Prop} {E903 : PS → Prop} {E920 : PS → Prop} {E959 : PS → Prop} {E976 : PS → Prop} {E1027 : PS → Prop} {E1051 : PS → Prop} {E1090 : PS → Prop} {E1107 : PS → Prop} {E1146 : PS → Prop} {E1163 : PS → Prop} {E1214 : PS → Prop} {E1238 : PS → Prop} {E1301 : PS → Prop} {E1318 : PS → Prop} {E1357 : PS → Prop} {E1374 : PS → Prop} {E1385 : PS → Prop} (x0 : Nat) (x1 : Nat) (x2 : Nat) (x3 : Nat) (x4 : Int32) (u : PS) (hR : ∀ (y4 : Int32) (v : PS), R y4 v → XNl x0 sL xs l Z i_L_law u0 Kv v 23 [(0, .ref x0), (1, .ref x1), (2, .ref x2), (3, .ref x3), (4, .int y4)] []) (hE175 : ∀ (v : PS), E175 v → XNl x0 sL xs l Z i_L_law u0 Kv v 175 [] []) (hE223 : ∀ (v : PS), E223 v → XNl x0 sL xs l Z i_L_law u0 Kv v 223 [] []) (hE295 : ∀ (v : PS), E295 v → XNl x0 sL xs l Z i_L_law u0 Kv v 295 [] []) (hE367 : ∀ (v : PS), E367 v → XNl x0 sL xs l Z i_L_law u0 Kv v 367 [] []) (hE439 : ∀ (v : PS), E439 v → XNl x0 sL xs l Z i_L_law u0 Kv v 439 [] []) (hE511 : ∀ (v : PS), E511 v → XNl x0 sL xs l Z i_L_law u0 Kv v 511 [] []) (hE599 : ∀ (v : PS), E599 v → XNl x0 sL xs l Z i_L_law u0 Kv v 599 [] []) (hE671 : ∀ (v : PS), E671 v → XNl x0 sL xs l Z i_L_law u0 Kv v 671 [] []) (hE722 : ∀ (v : PS), E722 v → XNl x0 sL xs l Z i_L_law u0 Kv v 722 [] []) (hE739 : ∀ (v : PS), E739 v → XNl x0 sL xs l Z i_L_law u0 Kv v 739 [] []) (hE778 : ∀ (v : PS), E778 v → XNl x0 sL xs l Z i_L_law u0 Kv v 778 [] []) (hE795 : ∀ (v : PS), E795 v → XNl x0 sL xs l Z i_L_law u0 Kv v 795 [] []) (hE811 : ∀ (v : PS), E811 v → XNl x0 sL xs l Z i_L_law u0 Kv v 811 [] []) (hE847 : ∀ (v : PS), E847 v → XNl x0 sL xs l Z i_L_law u0 Kv v 847 [] []) (hE864 : ∀ (v : PS), E864 v → XNl x0 sL xs l Z i_L_law u0 Kv v 864 [] []) (hE903 : ∀ (v : PS), E903 v → XNl x0 sL xs l Z i_L_law u0 Kv v 903 [] []) (hE920 : ∀ (v : PS), E920 v → XNl x0 sL xs l Z i_L_law u0 Kv v 920 [] []) (hE959 : ∀ (v : PS), E959 v → XNl x0 sL xs l Z i_L_law u0 Kv v 959 [] []) (hE976 : ∀ (v : PS), E976 v → XNl x0 sL xs l Z i_L_law u0 Kv v 976 [] []) (hE1027 : ∀ (v : PS), E1027 v → XNl x0 sL xs l Z i_L_law u0 Kv v 1027 [] []) (hE1051 : ∀ (v : PS), E1051 v → XNl x0 sL xs l Z i_L_law u0 Kv v 1051 [] []) (hE1090 : ∀ (v : PS), E1090 v → XNl x0 sL xs l Z i_L_law u0 Kv v 1090 [] []) (hE1107 : ∀ (v : PS), E1107 v → XNl x0 sL xs l Z i_L_law u0 Kv v 1107 [] []) (hE1146 : ∀ (v : PS), E1146 v → XNl x0 sL xs l Z i_L_law u0 Kv v 1146 [] []) (hE1163 : ∀ (v : PS), E1163 v → XNl x0 sL xs l Z i_L_law u0 Kv v 1163 [] []) (hE1214 : ∀ (v : PS), E1214 v → XNl x0 sL xs l Z i_L_law u0 Kv v 1214 [] []) (hE1238 : ∀ (v : PS), E1238 v → XNl x0 sL xs l Z i_L_law u0 Kv v 1238 [] []) (hE1301 : ∀ (v : PS), E1301 v → XNl x0 sL xs l Z i_L_law u0 Kv v 1301 [] []) (hE1318 : ∀ (v : PS), E1318 v → XNl x0 sL xs l Z i_L_law u0 Kv v 1318 [] []) (hE1357 : ∀ (v : PS), E1357 v → XNl x0 sL xs l Z i_L_law u0 Kv v 1357 [] []) (hE1374 : ∀ (v : PS), E1374 v → XNl x0 sL xs l Z i_L_law u0 Kv v 1374 [] []) (hE1385 : ∀ (v : PS), E1385 v → XNl x0 sL xs l Z i_L_law u0 Kv v 1385 [] []) (k : (p_L_law_J741 sL xs R E175 E223 E295 E367 E439 E511 E599 E671 E722 E739 E778 E795 E811 E847 E864 E903 E920 E959 E976 E1027 E1051 E1090 E1107 E1146 E1163 E1214 E1238 E1301 E1318 E1357 E1374 E1385 x0 x1 x2 x3 x4 u)) : XNl x0 sL xs l Z i_L_law u0 Kv u 741 [(0, .ref x0), (1, .ref x1), (2, .ref x2), (3, .ref x3), (4, .int x4)] [] := by
  unfold p_L_law_J741 at k
  obtain ⟨rv, v9, hK, hle_u, w9⟩ := t_L_law_J1379 l Z u0 sL xs x0 x1 x2 x3 x4 u hR hE175 hE223 hE295 hE367 hE439 hE511 hE599 hE671 hE722 hE739 hE778 hE795 hE811 hE847 hE864 hE903 hE920 hE959 hE976 hE1027 hE1051 hE1090 hE1107 hE1146 hE1163 hE1214 hE1238 hE1301 hE1318 hE1357 hE1374 hE1385 k
  refine ⟨rv, v9, hK, hle_u, ?_⟩
  intro p e s m args below meth c A H locs ls F hX hw hl
  obtain ⟨⟨hx, hb, hml, hown, hts⟩, hr, hlocks, hmn⟩ := id F
  refine lv_goto (tgt := 1379) hx hb d_L_law_741 (by decide) ?_
  exact w9 p e s m args below meth c A H locs ls F hX hw (lv_sub hl [0, 1, 2, 3, 4] rfl)
set_option maxRecDepth 100000 in
set_option maxHeartbeats 4000000 in
theorem t_L_law_J797 (l : Launch) (Z : XZ) (u0 : PS) (sL : Nat) (xs : Nat → Int32) {Kv : Option Value → PS → Prop} {R : Int32 → PS → Prop} {E175 : PS → Prop} {E223 : PS → Prop} {E295 : PS → Prop} {E367 : PS → Prop} {E439 : PS → Prop} {E511 : PS → Prop} {E599 : PS → Prop} {E671 : PS → Prop} {E722 : PS → Prop} {E739 : PS → Prop} {E778 : PS → Prop} {E795 : PS → Prop} {E811 : PS → Prop} {E847 : PS → Prop} {E864 : PS → Prop} {E903 : PS → Prop} {E920 : PS → Prop} {E959 : PS → Prop} {E976 : PS → Prop} {E1027 : PS → Prop} {E1051 : PS → Prop} {E1090 : PS → Prop} {E1107 : PS → Prop} {E1146 : PS → Prop} {E1163 : PS → Prop} {E1214 : PS → Prop} {E1238 : PS → Prop} {E1301 : PS → Prop} {E1318 : PS → Prop} {E1357 : PS → Prop} {E1374 : PS → Prop} {E1385 : PS → Prop} (x0 : Nat) (x1 : Nat) (x2 : Nat) (x3 : Nat) (x4 : Int32) (u : PS) (hR : ∀ (y4 : Int32) (v : PS), R y4 v → XNl x0 sL xs l Z i_L_law u0 Kv v 23 [(0, .ref x0), (1, .ref x1), (2, .ref x2), (3, .ref x3), (4, .int y4)] []) (hE175 : ∀ (v : PS), E175 v → XNl x0 sL xs l Z i_L_law u0 Kv v 175 [] []) (hE223 : ∀ (v : PS), E223 v → XNl x0 sL xs l Z i_L_law u0 Kv v 223 [] []) (hE295 : ∀ (v : PS), E295 v → XNl x0 sL xs l Z i_L_law u0 Kv v 295 [] []) (hE367 : ∀ (v : PS), E367 v → XNl x0 sL xs l Z i_L_law u0 Kv v 367 [] []) (hE439 : ∀ (v : PS), E439 v → XNl x0 sL xs l Z i_L_law u0 Kv v 439 [] []) (hE511 : ∀ (v : PS), E511 v → XNl x0 sL xs l Z i_L_law u0 Kv v 511 [] []) (hE599 : ∀ (v : PS), E599 v → XNl x0 sL xs l Z i_L_law u0 Kv v 599 [] []) (hE671 : ∀ (v : PS), E671 v → XNl x0 sL xs l Z i_L_law u0 Kv v 671 [] []) (hE722 : ∀ (v : PS), E722 v → XNl x0 sL xs l Z i_L_law u0 Kv v 722 [] []) (hE739 : ∀ (v : PS), E739 v → XNl x0 sL xs l Z i_L_law u0 Kv v 739 [] []) (hE778 : ∀ (v : PS), E778 v → XNl x0 sL xs l Z i_L_law u0 Kv v 778 [] []) (hE795 : ∀ (v : PS), E795 v → XNl x0 sL xs l Z i_L_law u0 Kv v 795 [] []) (hE811 : ∀ (v : PS), E811 v → XNl x0 sL xs l Z i_L_law u0 Kv v 811 [] []) (hE847 : ∀ (v : PS), E847 v → XNl x0 sL xs l Z i_L_law u0 Kv v 847 [] []) (hE864 : ∀ (v : PS), E864 v → XNl x0 sL xs l Z i_L_law u0 Kv v 864 [] []) (hE903 : ∀ (v : PS), E903 v → XNl x0 sL xs l Z i_L_law u0 Kv v 903 [] []) (hE920 : ∀ (v : PS), E920 v → XNl x0 sL xs l Z i_L_law u0 Kv v 920 [] []) (hE959 : ∀ (v : PS), E959 v → XNl x0 sL xs l Z i_L_law u0 Kv v 959 [] []) (hE976 : ∀ (v : PS), E976 v → XNl x0 sL xs l Z i_L_law u0 Kv v 976 [] []) (hE1027 : ∀ (v : PS), E1027 v → XNl x0 sL xs l Z i_L_law u0 Kv v 1027 [] []) (hE1051 : ∀ (v : PS), E1051 v → XNl x0 sL xs l Z i_L_law u0 Kv v 1051 [] []) (hE1090 : ∀ (v : PS), E1090 v → XNl x0 sL xs l Z i_L_law u0 Kv v 1090 [] []) (hE1107 : ∀ (v : PS), E1107 v → XNl x0 sL xs l Z i_L_law u0 Kv v 1107 [] []) (hE1146 : ∀ (v : PS), E1146 v → XNl x0 sL xs l Z i_L_law u0 Kv v 1146 [] []) (hE1163 : ∀ (v : PS), E1163 v → XNl x0 sL xs l Z i_L_law u0 Kv v 1163 [] []) (hE1214 : ∀ (v : PS), E1214 v → XNl x0 sL xs l Z i_L_law u0 Kv v 1214 [] []) (hE1238 : ∀ (v : PS), E1238 v → XNl x0 sL xs l Z i_L_law u0 Kv v 1238 [] []) (hE1301 : ∀ (v : PS), E1301 v → XNl x0 sL xs l Z i_L_law u0 Kv v 1301 [] []) (hE1318 : ∀ (v : PS), E1318 v → XNl x0 sL xs l Z i_L_law u0 Kv v 1318 [] []) (hE1357 : ∀ (v : PS), E1357 v → XNl x0 sL xs l Z i_L_law u0 Kv v 1357 [] []) (hE1374 : ∀ (v : PS), E1374 v → XNl x0 sL xs l Z i_L_law u0 Kv v 1374 [] []) (hE1385 : ∀ (v : PS), E1385 v → XNl x0 sL xs l Z i_L_law u0 Kv v 1385 [] []) (k : (p_L_law_J797 sL xs R E175 E223 E295 E367 E439 E511 E599 E671 E722 E739 E778 E795 E811 E847 E864 E903 E920 E959 E976 E1027 E1051 E1090 E1107 E1146 E1163 E1214 E1238 E1301 E1318 E1357 E1374 E1385 x0 x1 x2 x3 x4 u)) : XNl x0 sL xs l Z i_L_law u0 Kv u 797 [(0, .ref x0), (1, .ref x1), (2, .ref x2), (3, .ref x3), (4, .int x4)] [] := by
  unfold p_L_law_J797 at k
  obtain ⟨rv, v9, hK, hle_u, w9⟩ := t_L_law_J1379 l Z u0 sL xs x0 x1 x2 x3 x4 u hR hE175 hE223 hE295 hE367 hE439 hE511 hE599 hE671 hE722 hE739 hE778 hE795 hE811 hE847 hE864 hE903 hE920 hE959 hE976 hE1027 hE1051 hE1090 hE1107 hE1146 hE1163 hE1214 hE1238 hE1301 hE1318 hE1357 hE1374 hE1385 k
  refine ⟨rv, v9, hK, hle_u, ?_⟩
  intro p e s m args below meth c A H locs ls F hX hw hl
  obtain ⟨⟨hx, hb, hml, hown, hts⟩, hr, hlocks, hmn⟩ := id F
  refine lv_goto (tgt := 1379) hx hb d_L_law_797 (by decide) ?_
  exact w9 p e s m args below meth c A H locs ls F hX hw (lv_sub hl [0, 1, 2, 3, 4] rfl)
set_option maxRecDepth 100000 in
set_option maxHeartbeats 4000000 in
theorem t_L_law_J866 (l : Launch) (Z : XZ) (u0 : PS) (sL : Nat) (xs : Nat → Int32) {Kv : Option Value → PS → Prop} {R : Int32 → PS → Prop} {E175 : PS → Prop} {E223 : PS → Prop} {E295 : PS → Prop} {E367 : PS → Prop} {E439 : PS → Prop} {E511 : PS → Prop} {E599 : PS → Prop} {E671 : PS → Prop} {E722 : PS → Prop} {E739 : PS → Prop} {E778 : PS → Prop} {E795 : PS → Prop} {E811 : PS → Prop} {E847 : PS → Prop} {E864 : PS → Prop} {E903 : PS → Prop} {E920 : PS → Prop} {E959 : PS → Prop} {E976 : PS → Prop} {E1027 : PS → Prop} {E1051 : PS → Prop} {E1090 : PS → Prop} {E1107 : PS → Prop} {E1146 : PS → Prop} {E1163 : PS → Prop} {E1214 : PS → Prop} {E1238 : PS → Prop} {E1301 : PS → Prop} {E1318 : PS → Prop} {E1357 : PS → Prop} {E1374 : PS → Prop} {E1385 : PS → Prop} (x0 : Nat) (x1 : Nat) (x2 : Nat) (x3 : Nat) (x4 : Int32) (u : PS) (hR : ∀ (y4 : Int32) (v : PS), R y4 v → XNl x0 sL xs l Z i_L_law u0 Kv v 23 [(0, .ref x0), (1, .ref x1), (2, .ref x2), (3, .ref x3), (4, .int y4)] []) (hE175 : ∀ (v : PS), E175 v → XNl x0 sL xs l Z i_L_law u0 Kv v 175 [] []) (hE223 : ∀ (v : PS), E223 v → XNl x0 sL xs l Z i_L_law u0 Kv v 223 [] []) (hE295 : ∀ (v : PS), E295 v → XNl x0 sL xs l Z i_L_law u0 Kv v 295 [] []) (hE367 : ∀ (v : PS), E367 v → XNl x0 sL xs l Z i_L_law u0 Kv v 367 [] []) (hE439 : ∀ (v : PS), E439 v → XNl x0 sL xs l Z i_L_law u0 Kv v 439 [] []) (hE511 : ∀ (v : PS), E511 v → XNl x0 sL xs l Z i_L_law u0 Kv v 511 [] []) (hE599 : ∀ (v : PS), E599 v → XNl x0 sL xs l Z i_L_law u0 Kv v 599 [] []) (hE671 : ∀ (v : PS), E671 v → XNl x0 sL xs l Z i_L_law u0 Kv v 671 [] []) (hE722 : ∀ (v : PS), E722 v → XNl x0 sL xs l Z i_L_law u0 Kv v 722 [] []) (hE739 : ∀ (v : PS), E739 v → XNl x0 sL xs l Z i_L_law u0 Kv v 739 [] []) (hE778 : ∀ (v : PS), E778 v → XNl x0 sL xs l Z i_L_law u0 Kv v 778 [] []) (hE795 : ∀ (v : PS), E795 v → XNl x0 sL xs l Z i_L_law u0 Kv v 795 [] []) (hE811 : ∀ (v : PS), E811 v → XNl x0 sL xs l Z i_L_law u0 Kv v 811 [] []) (hE847 : ∀ (v : PS), E847 v → XNl x0 sL xs l Z i_L_law u0 Kv v 847 [] []) (hE864 : ∀ (v : PS), E864 v → XNl x0 sL xs l Z i_L_law u0 Kv v 864 [] []) (hE903 : ∀ (v : PS), E903 v → XNl x0 sL xs l Z i_L_law u0 Kv v 903 [] []) (hE920 : ∀ (v : PS), E920 v → XNl x0 sL xs l Z i_L_law u0 Kv v 920 [] []) (hE959 : ∀ (v : PS), E959 v → XNl x0 sL xs l Z i_L_law u0 Kv v 959 [] []) (hE976 : ∀ (v : PS), E976 v → XNl x0 sL xs l Z i_L_law u0 Kv v 976 [] []) (hE1027 : ∀ (v : PS), E1027 v → XNl x0 sL xs l Z i_L_law u0 Kv v 1027 [] []) (hE1051 : ∀ (v : PS), E1051 v → XNl x0 sL xs l Z i_L_law u0 Kv v 1051 [] []) (hE1090 : ∀ (v : PS), E1090 v → XNl x0 sL xs l Z i_L_law u0 Kv v 1090 [] []) (hE1107 : ∀ (v : PS), E1107 v → XNl x0 sL xs l Z i_L_law u0 Kv v 1107 [] []) (hE1146 : ∀ (v : PS), E1146 v → XNl x0 sL xs l Z i_L_law u0 Kv v 1146 [] []) (hE1163 : ∀ (v : PS), E1163 v → XNl x0 sL xs l Z i_L_law u0 Kv v 1163 [] []) (hE1214 : ∀ (v : PS), E1214 v → XNl x0 sL xs l Z i_L_law u0 Kv v 1214 [] []) (hE1238 : ∀ (v : PS), E1238 v → XNl x0 sL xs l Z i_L_law u0 Kv v 1238 [] []) (hE1301 : ∀ (v : PS), E1301 v → XNl x0 sL xs l Z i_L_law u0 Kv v 1301 [] []) (hE1318 : ∀ (v : PS), E1318 v → XNl x0 sL xs l Z i_L_law u0 Kv v 1318 [] []) (hE1357 : ∀ (v : PS), E1357 v → XNl x0 sL xs l Z i_L_law u0 Kv v 1357 [] []) (hE1374 : ∀ (v : PS), E1374 v → XNl x0 sL xs l Z i_L_law u0 Kv v 1374 [] []) (hE1385 : ∀ (v : PS), E1385 v → XNl x0 sL xs l Z i_L_law u0 Kv v 1385 [] []) (k : (p_L_law_J866 sL xs R E175 E223 E295 E367 E439 E511 E599 E671 E722 E739 E778 E795 E811 E847 E864 E903 E920 E959 E976 E1027 E1051 E1090 E1107 E1146 E1163 E1214 E1238 E1301 E1318 E1357 E1374 E1385 x0 x1 x2 x3 x4 u)) : XNl x0 sL xs l Z i_L_law u0 Kv u 866 [(0, .ref x0), (1, .ref x1), (2, .ref x2), (3, .ref x3), (4, .int x4)] [] := by
  unfold p_L_law_J866 at k
  obtain ⟨rv, v9, hK, hle_u, w9⟩ := t_L_law_J1379 l Z u0 sL xs x0 x1 x2 x3 x4 u hR hE175 hE223 hE295 hE367 hE439 hE511 hE599 hE671 hE722 hE739 hE778 hE795 hE811 hE847 hE864 hE903 hE920 hE959 hE976 hE1027 hE1051 hE1090 hE1107 hE1146 hE1163 hE1214 hE1238 hE1301 hE1318 hE1357 hE1374 hE1385 k
  refine ⟨rv, v9, hK, hle_u, ?_⟩
  intro p e s m args below meth c A H locs ls F hX hw hl
  obtain ⟨⟨hx, hb, hml, hown, hts⟩, hr, hlocks, hmn⟩ := id F
  refine lv_goto (tgt := 1379) hx hb d_L_law_866 (by decide) ?_
  exact w9 p e s m args below meth c A H locs ls F hX hw (lv_sub hl [0, 1, 2, 3, 4] rfl)
set_option maxRecDepth 100000 in
set_option maxHeartbeats 4000000 in
theorem t_L_law_J922 (l : Launch) (Z : XZ) (u0 : PS) (sL : Nat) (xs : Nat → Int32) {Kv : Option Value → PS → Prop} {R : Int32 → PS → Prop} {E175 : PS → Prop} {E223 : PS → Prop} {E295 : PS → Prop} {E367 : PS → Prop} {E439 : PS → Prop} {E511 : PS → Prop} {E599 : PS → Prop} {E671 : PS → Prop} {E722 : PS → Prop} {E739 : PS → Prop} {E778 : PS → Prop} {E795 : PS → Prop} {E811 : PS → Prop} {E847 : PS → Prop} {E864 : PS → Prop} {E903 : PS → Prop} {E920 : PS → Prop} {E959 : PS → Prop} {E976 : PS → Prop} {E1027 : PS → Prop} {E1051 : PS → Prop} {E1090 : PS → Prop} {E1107 : PS → Prop} {E1146 : PS → Prop} {E1163 : PS → Prop} {E1214 : PS → Prop} {E1238 : PS → Prop} {E1301 : PS → Prop} {E1318 : PS → Prop} {E1357 : PS → Prop} {E1374 : PS → Prop} {E1385 : PS → Prop} (x0 : Nat) (x1 : Nat) (x2 : Nat) (x3 : Nat) (x4 : Int32) (u : PS) (hR : ∀ (y4 : Int32) (v : PS), R y4 v → XNl x0 sL xs l Z i_L_law u0 Kv v 23 [(0, .ref x0), (1, .ref x1), (2, .ref x2), (3, .ref x3), (4, .int y4)] []) (hE175 : ∀ (v : PS), E175 v → XNl x0 sL xs l Z i_L_law u0 Kv v 175 [] []) (hE223 : ∀ (v : PS), E223 v → XNl x0 sL xs l Z i_L_law u0 Kv v 223 [] []) (hE295 : ∀ (v : PS), E295 v → XNl x0 sL xs l Z i_L_law u0 Kv v 295 [] []) (hE367 : ∀ (v : PS), E367 v → XNl x0 sL xs l Z i_L_law u0 Kv v 367 [] []) (hE439 : ∀ (v : PS), E439 v → XNl x0 sL xs l Z i_L_law u0 Kv v 439 [] []) (hE511 : ∀ (v : PS), E511 v → XNl x0 sL xs l Z i_L_law u0 Kv v 511 [] []) (hE599 : ∀ (v : PS), E599 v → XNl x0 sL xs l Z i_L_law u0 Kv v 599 [] []) (hE671 : ∀ (v : PS), E671 v → XNl x0 sL xs l Z i_L_law u0 Kv v 671 [] []) (hE722 : ∀ (v : PS), E722 v → XNl x0 sL xs l Z i_L_law u0 Kv v 722 [] []) (hE739 : ∀ (v : PS), E739 v → XNl x0 sL xs l Z i_L_law u0 Kv v 739 [] []) (hE778 : ∀ (v : PS), E778 v → XNl x0 sL xs l Z i_L_law u0 Kv v 778 [] []) (hE795 : ∀ (v : PS), E795 v → XNl x0 sL xs l Z i_L_law u0 Kv v 795 [] []) (hE811 : ∀ (v : PS), E811 v → XNl x0 sL xs l Z i_L_law u0 Kv v 811 [] []) (hE847 : ∀ (v : PS), E847 v → XNl x0 sL xs l Z i_L_law u0 Kv v 847 [] []) (hE864 : ∀ (v : PS), E864 v → XNl x0 sL xs l Z i_L_law u0 Kv v 864 [] []) (hE903 : ∀ (v : PS), E903 v → XNl x0 sL xs l Z i_L_law u0 Kv v 903 [] []) (hE920 : ∀ (v : PS), E920 v → XNl x0 sL xs l Z i_L_law u0 Kv v 920 [] []) (hE959 : ∀ (v : PS), E959 v → XNl x0 sL xs l Z i_L_law u0 Kv v 959 [] []) (hE976 : ∀ (v : PS), E976 v → XNl x0 sL xs l Z i_L_law u0 Kv v 976 [] []) (hE1027 : ∀ (v : PS), E1027 v → XNl x0 sL xs l Z i_L_law u0 Kv v 1027 [] []) (hE1051 : ∀ (v : PS), E1051 v → XNl x0 sL xs l Z i_L_law u0 Kv v 1051 [] []) (hE1090 : ∀ (v : PS), E1090 v → XNl x0 sL xs l Z i_L_law u0 Kv v 1090 [] []) (hE1107 : ∀ (v : PS), E1107 v → XNl x0 sL xs l Z i_L_law u0 Kv v 1107 [] []) (hE1146 : ∀ (v : PS), E1146 v → XNl x0 sL xs l Z i_L_law u0 Kv v 1146 [] []) (hE1163 : ∀ (v : PS), E1163 v → XNl x0 sL xs l Z i_L_law u0 Kv v 1163 [] []) (hE1214 : ∀ (v : PS), E1214 v → XNl x0 sL xs l Z i_L_law u0 Kv v 1214 [] []) (hE1238 : ∀ (v : PS), E1238 v → XNl x0 sL xs l Z i_L_law u0 Kv v 1238 [] []) (hE1301 : ∀ (v : PS), E1301 v → XNl x0 sL xs l Z i_L_law u0 Kv v 1301 [] []) (hE1318 : ∀ (v : PS), E1318 v → XNl x0 sL xs l Z i_L_law u0 Kv v 1318 [] []) (hE1357 : ∀ (v : PS), E1357 v → XNl x0 sL xs l Z i_L_law u0 Kv v 1357 [] []) (hE1374 : ∀ (v : PS), E1374 v → XNl x0 sL xs l Z i_L_law u0 Kv v 1374 [] []) (hE1385 : ∀ (v : PS), E1385 v → XNl x0 sL xs l Z i_L_law u0 Kv v 1385 [] []) (k : (p_L_law_J922 sL xs R E175 E223 E295 E367 E439 E511 E599 E671 E722 E739 E778 E795 E811 E847 E864 E903 E920 E959 E976 E1027 E1051 E1090 E1107 E1146 E1163 E1214 E1238 E1301 E1318 E1357 E1374 E1385 x0 x1 x2 x3 x4 u)) : XNl x0 sL xs l Z i_L_law u0 Kv u 922 [(0, .ref x0), (1, .ref x1), (2, .ref x2), (3, .ref x3), (4, .int x4)] [] := by
  unfold p_L_law_J922 at k
  obtain ⟨rv, v9, hK, hle_u, w9⟩ := t_L_law_J1379 l Z u0 sL xs x0 x1 x2 x3 x4 u hR hE175 hE223 hE295 hE367 hE439 hE511 hE599 hE671 hE722 hE739 hE778 hE795 hE811 hE847 hE864 hE903 hE920 hE959 hE976 hE1027 hE1051 hE1090 hE1107 hE1146 hE1163 hE1214 hE1238 hE1301 hE1318 hE1357 hE1374 hE1385 k
  refine ⟨rv, v9, hK, hle_u, ?_⟩
  intro p e s m args below meth c A H locs ls F hX hw hl
  obtain ⟨⟨hx, hb, hml, hown, hts⟩, hr, hlocks, hmn⟩ := id F
  refine lv_goto (tgt := 1379) hx hb d_L_law_922 (by decide) ?_
  exact w9 p e s m args below meth c A H locs ls F hX hw (lv_sub hl [0, 1, 2, 3, 4] rfl)
set_option maxRecDepth 100000 in
set_option maxHeartbeats 4000000 in
theorem t_L_law_J978 (l : Launch) (Z : XZ) (u0 : PS) (sL : Nat) (xs : Nat → Int32) {Kv : Option Value → PS → Prop} {R : Int32 → PS → Prop} {E175 : PS → Prop} {E223 : PS → Prop} {E295 : PS → Prop} {E367 : PS → Prop} {E439 : PS → Prop} {E511 : PS → Prop} {E599 : PS → Prop} {E671 : PS → Prop} {E722 : PS → Prop} {E739 : PS → Prop} {E778 : PS → Prop} {E795 : PS → Prop} {E811 : PS → Prop} {E847 : PS → Prop} {E864 : PS → Prop} {E903 : PS → Prop} {E920 : PS → Prop} {E959 : PS → Prop} {E976 : PS → Prop} {E1027 : PS → Prop} {E1051 : PS → Prop} {E1090 : PS → Prop} {E1107 : PS → Prop} {E1146 : PS → Prop} {E1163 : PS → Prop} {E1214 : PS → Prop} {E1238 : PS → Prop} {E1301 : PS → Prop} {E1318 : PS → Prop} {E1357 : PS → Prop} {E1374 : PS → Prop} {E1385 : PS → Prop} (x0 : Nat) (x1 : Nat) (x2 : Nat) (x3 : Nat) (x4 : Int32) (u : PS) (hR : ∀ (y4 : Int32) (v : PS), R y4 v → XNl x0 sL xs l Z i_L_law u0 Kv v 23 [(0, .ref x0), (1, .ref x1), (2, .ref x2), (3, .ref x3), (4, .int y4)] []) (hE175 : ∀ (v : PS), E175 v → XNl x0 sL xs l Z i_L_law u0 Kv v 175 [] []) (hE223 : ∀ (v : PS), E223 v → XNl x0 sL xs l Z i_L_law u0 Kv v 223 [] []) (hE295 : ∀ (v : PS), E295 v → XNl x0 sL xs l Z i_L_law u0 Kv v 295 [] []) (hE367 : ∀ (v : PS), E367 v → XNl x0 sL xs l Z i_L_law u0 Kv v 367 [] []) (hE439 : ∀ (v : PS), E439 v → XNl x0 sL xs l Z i_L_law u0 Kv v 439 [] []) (hE511 : ∀ (v : PS), E511 v → XNl x0 sL xs l Z i_L_law u0 Kv v 511 [] []) (hE599 : ∀ (v : PS), E599 v → XNl x0 sL xs l Z i_L_law u0 Kv v 599 [] []) (hE671 : ∀ (v : PS), E671 v → XNl x0 sL xs l Z i_L_law u0 Kv v 671 [] []) (hE722 : ∀ (v : PS), E722 v → XNl x0 sL xs l Z i_L_law u0 Kv v 722 [] []) (hE739 : ∀ (v : PS), E739 v → XNl x0 sL xs l Z i_L_law u0 Kv v 739 [] []) (hE778 : ∀ (v : PS), E778 v → XNl x0 sL xs l Z i_L_law u0 Kv v 778 [] []) (hE795 : ∀ (v : PS), E795 v → XNl x0 sL xs l Z i_L_law u0 Kv v 795 [] []) (hE811 : ∀ (v : PS), E811 v → XNl x0 sL xs l Z i_L_law u0 Kv v 811 [] []) (hE847 : ∀ (v : PS), E847 v → XNl x0 sL xs l Z i_L_law u0 Kv v 847 [] []) (hE864 : ∀ (v : PS), E864 v → XNl x0 sL xs l Z i_L_law u0 Kv v 864 [] []) (hE903 : ∀ (v : PS), E903 v → XNl x0 sL xs l Z i_L_law u0 Kv v 903 [] []) (hE920 : ∀ (v : PS), E920 v → XNl x0 sL xs l Z i_L_law u0 Kv v 920 [] []) (hE959 : ∀ (v : PS), E959 v → XNl x0 sL xs l Z i_L_law u0 Kv v 959 [] []) (hE976 : ∀ (v : PS), E976 v → XNl x0 sL xs l Z i_L_law u0 Kv v 976 [] []) (hE1027 : ∀ (v : PS), E1027 v → XNl x0 sL xs l Z i_L_law u0 Kv v 1027 [] []) (hE1051 : ∀ (v : PS), E1051 v → XNl x0 sL xs l Z i_L_law u0 Kv v 1051 [] []) (hE1090 : ∀ (v : PS), E1090 v → XNl x0 sL xs l Z i_L_law u0 Kv v 1090 [] []) (hE1107 : ∀ (v : PS), E1107 v → XNl x0 sL xs l Z i_L_law u0 Kv v 1107 [] []) (hE1146 : ∀ (v : PS), E1146 v → XNl x0 sL xs l Z i_L_law u0 Kv v 1146 [] []) (hE1163 : ∀ (v : PS), E1163 v → XNl x0 sL xs l Z i_L_law u0 Kv v 1163 [] []) (hE1214 : ∀ (v : PS), E1214 v → XNl x0 sL xs l Z i_L_law u0 Kv v 1214 [] []) (hE1238 : ∀ (v : PS), E1238 v → XNl x0 sL xs l Z i_L_law u0 Kv v 1238 [] []) (hE1301 : ∀ (v : PS), E1301 v → XNl x0 sL xs l Z i_L_law u0 Kv v 1301 [] []) (hE1318 : ∀ (v : PS), E1318 v → XNl x0 sL xs l Z i_L_law u0 Kv v 1318 [] []) (hE1357 : ∀ (v : PS), E1357 v → XNl x0 sL xs l Z i_L_law u0 Kv v 1357 [] []) (hE1374 : ∀ (v : PS), E1374 v → XNl x0 sL xs l Z i_L_law u0 Kv v 1374 [] []) (hE1385 : ∀ (v : PS), E1385 v → XNl x0 sL xs l Z i_L_law u0 Kv v 1385 [] []) (k : (p_L_law_J978 sL xs R E175 E223 E295 E367 E439 E511 E599 E671 E722 E739 E778 E795 E811 E847 E864 E903 E920 E959 E976 E1027 E1051 E1090 E1107 E1146 E1163 E1214 E1238 E1301 E1318 E1357 E1374 E1385 x0 x1 x2 x3 x4 u)) : XNl x0 sL xs l Z i_L_law u0 Kv u 978 [(0, .ref x0), (1, .ref x1), (2, .ref x2), (3, .ref x3), (4, .int x4)] [] := by
  unfold p_L_law_J978 at k
  obtain ⟨rv, v9, hK, hle_u, w9⟩ := t_L_law_J1379 l Z u0 sL xs x0 x1 x2 x3 x4 u hR hE175 hE223 hE295 hE367 hE439 hE511 hE599 hE671 hE722 hE739 hE778 hE795 hE811 hE847 hE864 hE903 hE920 hE959 hE976 hE1027 hE1051 hE1090 hE1107 hE1146 hE1163 hE1214 hE1238 hE1301 hE1318 hE1357 hE1374 hE1385 k
  refine ⟨rv, v9, hK, hle_u, ?_⟩
  intro p e s m args below meth c A H locs ls F hX hw hl
  obtain ⟨⟨hx, hb, hml, hown, hts⟩, hr, hlocks, hmn⟩ := id F
  refine lv_goto (tgt := 1379) hx hb d_L_law_978 (by decide) ?_
  exact w9 p e s m args below meth c A H locs ls F hX hw (lv_sub hl [0, 1, 2, 3, 4] rfl)
set_option maxRecDepth 100000 in
set_option maxHeartbeats 4000000 in
theorem t_L_law_J1053 (l : Launch) (Z : XZ) (u0 : PS) (sL : Nat) (xs : Nat → Int32) {Kv : Option Value → PS → Prop} {R : Int32 → PS → Prop} {E175 : PS → Prop} {E223 : PS → Prop} {E295 : PS → Prop} {E367 : PS → Prop} {E439 : PS → Prop} {E511 : PS → Prop} {E599 : PS → Prop} {E671 : PS → Prop} {E722 : PS → Prop} {E739 : PS → Prop} {E778 : PS → Prop} {E795 : PS → Prop} {E811 : PS → Prop} {E847 : PS → Prop} {E864 : PS → Prop} {E903 : PS → Prop} {E920 : PS → Prop} {E959 : PS → Prop} {E976 : PS → Prop} {E1027 : PS → Prop} {E1051 : PS → Prop} {E1090 : PS → Prop} {E1107 : PS → Prop} {E1146 : PS → Prop} {E1163 : PS → Prop} {E1214 : PS → Prop} {E1238 : PS → Prop} {E1301 : PS → Prop} {E1318 : PS → Prop} {E1357 : PS → Prop} {E1374 : PS → Prop} {E1385 : PS → Prop} (x0 : Nat) (x1 : Nat) (x2 : Nat) (x3 : Nat) (x4 : Int32) (u : PS) (hR : ∀ (y4 : Int32) (v : PS), R y4 v → XNl x0 sL xs l Z i_L_law u0 Kv v 23 [(0, .ref x0), (1, .ref x1), (2, .ref x2), (3, .ref x3), (4, .int y4)] []) (hE175 : ∀ (v : PS), E175 v → XNl x0 sL xs l Z i_L_law u0 Kv v 175 [] []) (hE223 : ∀ (v : PS), E223 v → XNl x0 sL xs l Z i_L_law u0 Kv v 223 [] []) (hE295 : ∀ (v : PS), E295 v → XNl x0 sL xs l Z i_L_law u0 Kv v 295 [] []) (hE367 : ∀ (v : PS), E367 v → XNl x0 sL xs l Z i_L_law u0 Kv v 367 [] []) (hE439 : ∀ (v : PS), E439 v → XNl x0 sL xs l Z i_L_law u0 Kv v 439 [] []) (hE511 : ∀ (v : PS), E511 v → XNl x0 sL xs l Z i_L_law u0 Kv v 511 [] []) (hE599 : ∀ (v : PS), E599 v → XNl x0 sL xs l Z i_L_law u0 Kv v 599 [] []) (hE671 : ∀ (v : PS), E671 v → XNl x0 sL xs l Z i_L_law u0 Kv v 671 [] []) (hE722 : ∀ (v : PS), E722 v → XNl x0 sL xs l Z i_L_law u0 Kv v 722 [] []) (hE739 : ∀ (v : PS), E739 v → XNl x0 sL xs l Z i_L_law u0 Kv v 739 [] []) (hE778 : ∀ (v : PS), E778 v → XNl x0 sL xs l Z i_L_law u0 Kv v 778 [] []) (hE795 : ∀ (v : PS), E795 v → XNl x0 sL xs l Z i_L_law u0 Kv v 795 [] []) (hE811 : ∀ (v : PS), E811 v → XNl x0 sL xs l Z i_L_law u0 Kv v 811 [] []) (hE847 : ∀ (v : PS), E847 v → XNl x0 sL xs l Z i_L_law u0 Kv v 847 [] []) (hE864 : ∀ (v : PS), E864 v → XNl x0 sL xs l Z i_L_law u0 Kv v 864 [] []) (hE903 : ∀ (v : PS), E903 v → XNl x0 sL xs l Z i_L_law u0 Kv v 903 [] []) (hE920 : ∀ (v : PS), E920 v → XNl x0 sL xs l Z i_L_law u0 Kv v 920 [] []) (hE959 : ∀ (v : PS), E959 v → XNl x0 sL xs l Z i_L_law u0 Kv v 959 [] []) (hE976 : ∀ (v : PS), E976 v → XNl x0 sL xs l Z i_L_law u0 Kv v 976 [] []) (hE1027 : ∀ (v : PS), E1027 v → XNl x0 sL xs l Z i_L_law u0 Kv v 1027 [] []) (hE1051 : ∀ (v : PS), E1051 v → XNl x0 sL xs l Z i_L_law u0 Kv v 1051 [] []) (hE1090 : ∀ (v : PS), E1090 v → XNl x0 sL xs l Z i_L_law u0 Kv v 1090 [] []) (hE1107 : ∀ (v : PS), E1107 v → XNl x0 sL xs l Z i_L_law u0 Kv v 1107 [] []) (hE1146 : ∀ (v : PS), E1146 v → XNl x0 sL xs l Z i_L_law u0 Kv v 1146 [] []) (hE1163 : ∀ (v : PS), E1163 v → XNl x0 sL xs l Z i_L_law u0 Kv v 1163 [] []) (hE1214 : ∀ (v : PS), E1214 v → XNl x0 sL xs l Z i_L_law u0 Kv v 1214 [] []) (hE1238 : ∀ (v : PS), E1238 v → XNl x0 sL xs l Z i_L_law u0 Kv v 1238 [] []) (hE1301 : ∀ (v : PS), E1301 v → XNl x0 sL xs l Z i_L_law u0 Kv v 1301 [] []) (hE1318 : ∀ (v : PS), E1318 v → XNl x0 sL xs l Z i_L_law u0 Kv v 1318 [] []) (hE1357 : ∀ (v : PS), E1357 v → XNl x0 sL xs l Z i_L_law u0 Kv v 1357 [] []) (hE1374 : ∀ (v : PS), E1374 v → XNl x0 sL xs l Z i_L_law u0 Kv v 1374 [] []) (hE1385 : ∀ (v : PS), E1385 v → XNl x0 sL xs l Z i_L_law u0 Kv v 1385 [] []) (k : (p_L_law_J1053 sL xs R E175 E223 E295 E367 E439 E511 E599 E671 E722 E739 E778 E795 E811 E847 E864 E903 E920 E959 E976 E1027 E1051 E1090 E1107 E1146 E1163 E1214 E1238 E1301 E1318 E1357 E1374 E1385 x0 x1 x2 x3 x4 u)) : XNl x0 sL xs l Z i_L_law u0 Kv u 1053 [(0, .ref x0), (1, .ref x1), (2, .ref x2), (3, .ref x3), (4, .int x4)] [] := by
  unfold p_L_law_J1053 at k
  obtain ⟨rv, v9, hK, hle_u, w9⟩ := t_L_law_J1379 l Z u0 sL xs x0 x1 x2 x3 x4 u hR hE175 hE223 hE295 hE367 hE439 hE511 hE599 hE671 hE722 hE739 hE778 hE795 hE811 hE847 hE864 hE903 hE920 hE959 hE976 hE1027 hE1051 hE1090 hE1107 hE1146 hE1163 hE1214 hE1238 hE1301 hE1318 hE1357 hE1374 hE1385 k
  refine ⟨rv, v9, hK, hle_u, ?_⟩
  intro p e s m args below meth c A H locs ls F hX hw hl
  obtain ⟨⟨hx, hb, hml, hown, hts⟩, hr, hlocks, hmn⟩ := id F
  refine lv_goto (tgt := 1379) hx hb d_L_law_1053 (by decide) ?_
  exact w9 p e s m args below meth c A H locs ls F hX hw (lv_sub hl [0, 1, 2, 3, 4] rfl)
set_option maxRecDepth 100000 in
set_option maxHeartbeats 4000000 in
theorem t_L_law_J1047 (l : Launch) (Z : XZ) (u0 : PS) (sL : Nat) (xs : Nat → Int32) {Kv : Option Value → PS → Prop} {R : Int32 → PS → Prop} {E175 : PS → Prop} {E223 : PS → Prop} {E295 : PS → Prop} {E367 : PS → Prop} {E439 : PS → Prop} {E511 : PS → Prop} {E599 : PS → Prop} {E671 : PS → Prop} {E722 : PS → Prop} {E739 : PS → Prop} {E778 : PS → Prop} {E795 : PS → Prop} {E811 : PS → Prop} {E847 : PS → Prop} {E864 : PS → Prop} {E903 : PS → Prop} {E920 : PS → Prop} {E959 : PS → Prop} {E976 : PS → Prop} {E1027 : PS → Prop} {E1051 : PS → Prop} {E1090 : PS → Prop} {E1107 : PS → Prop} {E1146 : PS → Prop} {E1163 : PS → Prop} {E1214 : PS → Prop} {E1238 : PS → Prop} {E1301 : PS → Prop} {E1318 : PS → Prop} {E1357 : PS → Prop} {E1374 : PS → Prop} {E1385 : PS → Prop} (x0 : Nat) (x1 : Nat) (x2 : Nat) (x3 : Nat) (x4 : Int32) (s0 : Int64) (s1 : Int64) (u : PS) (hR : ∀ (y4 : Int32) (v : PS), R y4 v → XNl x0 sL xs l Z i_L_law u0 Kv v 23 [(0, .ref x0), (1, .ref x1), (2, .ref x2), (3, .ref x3), (4, .int y4)] []) (hE175 : ∀ (v : PS), E175 v → XNl x0 sL xs l Z i_L_law u0 Kv v 175 [] []) (hE223 : ∀ (v : PS), E223 v → XNl x0 sL xs l Z i_L_law u0 Kv v 223 [] []) (hE295 : ∀ (v : PS), E295 v → XNl x0 sL xs l Z i_L_law u0 Kv v 295 [] []) (hE367 : ∀ (v : PS), E367 v → XNl x0 sL xs l Z i_L_law u0 Kv v 367 [] []) (hE439 : ∀ (v : PS), E439 v → XNl x0 sL xs l Z i_L_law u0 Kv v 439 [] []) (hE511 : ∀ (v : PS), E511 v → XNl x0 sL xs l Z i_L_law u0 Kv v 511 [] []) (hE599 : ∀ (v : PS), E599 v → XNl x0 sL xs l Z i_L_law u0 Kv v 599 [] []) (hE671 : ∀ (v : PS), E671 v → XNl x0 sL xs l Z i_L_law u0 Kv v 671 [] []) (hE722 : ∀ (v : PS), E722 v → XNl x0 sL xs l Z i_L_law u0 Kv v 722 [] []) (hE739 : ∀ (v : PS), E739 v → XNl x0 sL xs l Z i_L_law u0 Kv v 739 [] []) (hE778 : ∀ (v : PS), E778 v → XNl x0 sL xs l Z i_L_law u0 Kv v 778 [] []) (hE795 : ∀ (v : PS), E795 v → XNl x0 sL xs l Z i_L_law u0 Kv v 795 [] []) (hE811 : ∀ (v : PS), E811 v → XNl x0 sL xs l Z i_L_law u0 Kv v 811 [] []) (hE847 : ∀ (v : PS), E847 v → XNl x0 sL xs l Z i_L_law u0 Kv v 847 [] []) (hE864 : ∀ (v : PS), E864 v → XNl x0 sL xs l Z i_L_law u0 Kv v 864 [] []) (hE903 : ∀ (v : PS), E903 v → XNl x0 sL xs l Z i_L_law u0 Kv v 903 [] []) (hE920 : ∀ (v : PS), E920 v → XNl x0 sL xs l Z i_L_law u0 Kv v 920 [] []) (hE959 : ∀ (v : PS), E959 v → XNl x0 sL xs l Z i_L_law u0 Kv v 959 [] []) (hE976 : ∀ (v : PS), E976 v → XNl x0 sL xs l Z i_L_law u0 Kv v 976 [] []) (hE1027 : ∀ (v : PS), E1027 v → XNl x0 sL xs l Z i_L_law u0 Kv v 1027 [] []) (hE1051 : ∀ (v : PS), E1051 v → XNl x0 sL xs l Z i_L_law u0 Kv v 1051 [] []) (hE1090 : ∀ (v : PS), E1090 v → XNl x0 sL xs l Z i_L_law u0 Kv v 1090 [] []) (hE1107 : ∀ (v : PS), E1107 v → XNl x0 sL xs l Z i_L_law u0 Kv v 1107 [] []) (hE1146 : ∀ (v : PS), E1146 v → XNl x0 sL xs l Z i_L_law u0 Kv v 1146 [] []) (hE1163 : ∀ (v : PS), E1163 v → XNl x0 sL xs l Z i_L_law u0 Kv v 1163 [] []) (hE1214 : ∀ (v : PS), E1214 v → XNl x0 sL xs l Z i_L_law u0 Kv v 1214 [] []) (hE1238 : ∀ (v : PS), E1238 v → XNl x0 sL xs l Z i_L_law u0 Kv v 1238 [] []) (hE1301 : ∀ (v : PS), E1301 v → XNl x0 sL xs l Z i_L_law u0 Kv v 1301 [] []) (hE1318 : ∀ (v : PS), E1318 v → XNl x0 sL xs l Z i_L_law u0 Kv v 1318 [] []) (hE1357 : ∀ (v : PS), E1357 v → XNl x0 sL xs l Z i_L_law u0 Kv v 1357 [] []) (hE1374 : ∀ (v : PS), E1374 v → XNl x0 sL xs l Z i_L_law u0 Kv v 1374 [] []) (hE1385 : ∀ (v : PS), E1385 v → XNl x0 sL xs l Z i_L_law u0 Kv v 1385 [] []) (k : (p_L_law_J1047 sL xs R E175 E223 E295 E367 E439 E511 E599 E671 E722 E739 E778 E795 E811 E847 E864 E903 E920 E959 E976 E1027 E1051 E1090 E1107 E1146 E1163 E1214 E1238 E1301 E1318 E1357 E1374 E1385 x0 x1 x2 x3 x4 s0 s1 u)) : XNl x0 sL xs l Z i_L_law u0 Kv u 1047 [(0, .ref x0), (1, .ref x1), (2, .ref x2), (3, .ref x3), (4, .int x4)] [.long s1, .long s0] := by
  unfold p_L_law_J1047 at k
  by_cases hc1 : (lg_cmp s0 s1) = 0
  · have k := k.1 hc1
    obtain ⟨rv, v9, hK, hle_u, w9⟩ := t_L_law_J1053 l Z u0 sL xs x0 x1 x2 x3 x4 u hR hE175 hE223 hE295 hE367 hE439 hE511 hE599 hE671 hE722 hE739 hE778 hE795 hE811 hE847 hE864 hE903 hE920 hE959 hE976 hE1027 hE1051 hE1090 hE1107 hE1146 hE1163 hE1214 hE1238 hE1301 hE1318 hE1357 hE1374 hE1385 k
    refine ⟨rv, v9, hK, hle_u, ?_⟩
    intro p e s m args below meth c A H locs ls F hX hw hl
    obtain ⟨⟨hx, hb, hml, hown, hts⟩, hr, hlocks, hmn⟩ := id F
    refine W.lcmp hx hb d_L_law_1047 ?_
    refine lv_if_eq (tgt := 1053) hx hb d_L_law_1048 (by decide) (fun _ => ?_) (fun c9 => absurd hc1 c9)
    exact w9 p e s m args below meth c A H locs ls F hX hw (lv_sub hl [0, 1, 2, 3, 4] rfl)
  · have k := k.2 hc1
    obtain ⟨rv, v9, hK, hle_u, w9⟩ := hE1051 u k
    refine ⟨rv, v9, hK, hle_u, ?_⟩
    intro p e s m args below meth c A H locs ls F hX hw hl
    obtain ⟨⟨hx, hb, hml, hown, hts⟩, hr, hlocks, hmn⟩ := id F
    refine W.lcmp hx hb d_L_law_1047 ?_
    refine lv_if_eq (tgt := 1053) hx hb d_L_law_1048 (by decide) (fun c9 => absurd c9 hc1) (fun _ => ?_)
    exact w9 p e s m args below meth c A H locs ls F hX hw (lv_sub hl [] rfl)
set_option maxRecDepth 100000 in
set_option maxHeartbeats 4000000 in
theorem t_L_law_J1109 (l : Launch) (Z : XZ) (u0 : PS) (sL : Nat) (xs : Nat → Int32) {Kv : Option Value → PS → Prop} {R : Int32 → PS → Prop} {E175 : PS → Prop} {E223 : PS → Prop} {E295 : PS → Prop} {E367 : PS → Prop} {E439 : PS → Prop} {E511 : PS → Prop} {E599 : PS → Prop} {E671 : PS → Prop} {E722 : PS → Prop} {E739 : PS → Prop} {E778 : PS → Prop} {E795 : PS → Prop} {E811 : PS → Prop} {E847 : PS → Prop} {E864 : PS → Prop} {E903 : PS → Prop} {E920 : PS → Prop} {E959 : PS → Prop} {E976 : PS → Prop} {E1027 : PS → Prop} {E1051 : PS → Prop} {E1090 : PS → Prop} {E1107 : PS → Prop} {E1146 : PS → Prop} {E1163 : PS → Prop} {E1214 : PS → Prop} {E1238 : PS → Prop} {E1301 : PS → Prop} {E1318 : PS → Prop} {E1357 : PS → Prop} {E1374 : PS → Prop} {E1385 : PS → Prop} (x0 : Nat) (x1 : Nat) (x2 : Nat) (x3 : Nat) (x4 : Int32) (u : PS) (hR : ∀ (y4 : Int32) (v : PS), R y4 v → XNl x0 sL xs l Z i_L_law u0 Kv v 23 [(0, .ref x0), (1, .ref x1), (2, .ref x2), (3, .ref x3), (4, .int y4)] []) (hE175 : ∀ (v : PS), E175 v → XNl x0 sL xs l Z i_L_law u0 Kv v 175 [] []) (hE223 : ∀ (v : PS), E223 v → XNl x0 sL xs l Z i_L_law u0 Kv v 223 [] []) (hE295 : ∀ (v : PS), E295 v → XNl x0 sL xs l Z i_L_law u0 Kv v 295 [] []) (hE367 : ∀ (v : PS), E367 v → XNl x0 sL xs l Z i_L_law u0 Kv v 367 [] []) (hE439 : ∀ (v : PS), E439 v → XNl x0 sL xs l Z i_L_law u0 Kv v 439 [] []) (hE511 : ∀ (v : PS), E511 v → XNl x0 sL xs l Z i_L_law u0 Kv v 511 [] []) (hE599 : ∀ (v : PS), E599 v → XNl x0 sL xs l Z i_L_law u0 Kv v 599 [] []) (hE671 : ∀ (v : PS), E671 v → XNl x0 sL xs l Z i_L_law u0 Kv v 671 [] []) (hE722 : ∀ (v : PS), E722 v → XNl x0 sL xs l Z i_L_law u0 Kv v 722 [] []) (hE739 : ∀ (v : PS), E739 v → XNl x0 sL xs l Z i_L_law u0 Kv v 739 [] []) (hE778 : ∀ (v : PS), E778 v → XNl x0 sL xs l Z i_L_law u0 Kv v 778 [] []) (hE795 : ∀ (v : PS), E795 v → XNl x0 sL xs l Z i_L_law u0 Kv v 795 [] []) (hE811 : ∀ (v : PS), E811 v → XNl x0 sL xs l Z i_L_law u0 Kv v 811 [] []) (hE847 : ∀ (v : PS), E847 v → XNl x0 sL xs l Z i_L_law u0 Kv v 847 [] []) (hE864 : ∀ (v : PS), E864 v → XNl x0 sL xs l Z i_L_law u0 Kv v 864 [] []) (hE903 : ∀ (v : PS), E903 v → XNl x0 sL xs l Z i_L_law u0 Kv v 903 [] []) (hE920 : ∀ (v : PS), E920 v → XNl x0 sL xs l Z i_L_law u0 Kv v 920 [] []) (hE959 : ∀ (v : PS), E959 v → XNl x0 sL xs l Z i_L_law u0 Kv v 959 [] []) (hE976 : ∀ (v : PS), E976 v → XNl x0 sL xs l Z i_L_law u0 Kv v 976 [] []) (hE1027 : ∀ (v : PS), E1027 v → XNl x0 sL xs l Z i_L_law u0 Kv v 1027 [] []) (hE1051 : ∀ (v : PS), E1051 v → XNl x0 sL xs l Z i_L_law u0 Kv v 1051 [] []) (hE1090 : ∀ (v : PS), E1090 v → XNl x0 sL xs l Z i_L_law u0 Kv v 1090 [] []) (hE1107 : ∀ (v : PS), E1107 v → XNl x0 sL xs l Z i_L_law u0 Kv v 1107 [] []) (hE1146 : ∀ (v : PS), E1146 v → XNl x0 sL xs l Z i_L_law u0 Kv v 1146 [] []) (hE1163 : ∀ (v : PS), E1163 v → XNl x0 sL xs l Z i_L_law u0 Kv v 1163 [] []) (hE1214 : ∀ (v : PS), E1214 v → XNl x0 sL xs l Z i_L_law u0 Kv v 1214 [] []) (hE1238 : ∀ (v : PS), E1238 v → XNl x0 sL xs l Z i_L_law u0 Kv v 1238 [] []) (hE1301 : ∀ (v : PS), E1301 v → XNl x0 sL xs l Z i_L_law u0 Kv v 1301 [] []) (hE1318 : ∀ (v : PS), E1318 v → XNl x0 sL xs l Z i_L_law u0 Kv v 1318 [] []) (hE1357 : ∀ (v : PS), E1357 v → XNl x0 sL xs l Z i_L_law u0 Kv v 1357 [] []) (hE1374 : ∀ (v : PS), E1374 v → XNl x0 sL xs l Z i_L_law u0 Kv v 1374 [] []) (hE1385 : ∀ (v : PS), E1385 v → XNl x0 sL xs l Z i_L_law u0 Kv v 1385 [] []) (k : (p_L_law_J1109 sL xs R E175 E223 E295 E367 E439 E511 E599 E671 E722 E739 E778 E795 E811 E847 E864 E903 E920 E959 E976 E1027 E1051 E1090 E1107 E1146 E1163 E1214 E1238 E1301 E1318 E1357 E1374 E1385 x0 x1 x2 x3 x4 u)) : XNl x0 sL xs l Z i_L_law u0 Kv u 1109 [(0, .ref x0), (1, .ref x1), (2, .ref x2), (3, .ref x3), (4, .int x4)] [] := by
  unfold p_L_law_J1109 at k
  obtain ⟨rv, v9, hK, hle_u, w9⟩ := t_L_law_J1379 l Z u0 sL xs x0 x1 x2 x3 x4 u hR hE175 hE223 hE295 hE367 hE439 hE511 hE599 hE671 hE722 hE739 hE778 hE795 hE811 hE847 hE864 hE903 hE920 hE959 hE976 hE1027 hE1051 hE1090 hE1107 hE1146 hE1163 hE1214 hE1238 hE1301 hE1318 hE1357 hE1374 hE1385 k
  refine ⟨rv, v9, hK, hle_u, ?_⟩
  intro p e s m args below meth c A H locs ls F hX hw hl
  obtain ⟨⟨hx, hb, hml, hown, hts⟩, hr, hlocks, hmn⟩ := id F
  refine lv_goto (tgt := 1379) hx hb d_L_law_1109 (by decide) ?_
  exact w9 p e s m args below meth c A H locs ls F hX hw (lv_sub hl [0, 1, 2, 3, 4] rfl)
set_option maxRecDepth 100000 in
set_option maxHeartbeats 4000000 in
theorem t_L_law_J1165 (l : Launch) (Z : XZ) (u0 : PS) (sL : Nat) (xs : Nat → Int32) {Kv : Option Value → PS → Prop} {R : Int32 → PS → Prop} {E175 : PS → Prop} {E223 : PS → Prop} {E295 : PS → Prop} {E367 : PS → Prop} {E439 : PS → Prop} {E511 : PS → Prop} {E599 : PS → Prop} {E671 : PS → Prop} {E722 : PS → Prop} {E739 : PS → Prop} {E778 : PS → Prop} {E795 : PS → Prop} {E811 : PS → Prop} {E847 : PS → Prop} {E864 : PS → Prop} {E903 : PS → Prop} {E920 : PS → Prop} {E959 : PS → Prop} {E976 : PS → Prop} {E1027 : PS → Prop} {E1051 : PS → Prop} {E1090 : PS → Prop} {E1107 : PS → Prop} {E1146 : PS → Prop} {E1163 : PS → Prop} {E1214 : PS → Prop} {E1238 : PS → Prop} {E1301 : PS → Prop} {E1318 : PS → Prop} {E1357 : PS → Prop} {E1374 : PS → Prop} {E1385 : PS → Prop} (x0 : Nat) (x1 : Nat) (x2 : Nat) (x3 : Nat) (x4 : Int32) (u : PS) (hR : ∀ (y4 : Int32) (v : PS), R y4 v → XNl x0 sL xs l Z i_L_law u0 Kv v 23 [(0, .ref x0), (1, .ref x1), (2, .ref x2), (3, .ref x3), (4, .int y4)] []) (hE175 : ∀ (v : PS), E175 v → XNl x0 sL xs l Z i_L_law u0 Kv v 175 [] []) (hE223 : ∀ (v : PS), E223 v → XNl x0 sL xs l Z i_L_law u0 Kv v 223 [] []) (hE295 : ∀ (v : PS), E295 v → XNl x0 sL xs l Z i_L_law u0 Kv v 295 [] []) (hE367 : ∀ (v : PS), E367 v → XNl x0 sL xs l Z i_L_law u0 Kv v 367 [] []) (hE439 : ∀ (v : PS), E439 v → XNl x0 sL xs l Z i_L_law u0 Kv v 439 [] []) (hE511 : ∀ (v : PS), E511 v → XNl x0 sL xs l Z i_L_law u0 Kv v 511 [] []) (hE599 : ∀ (v : PS), E599 v → XNl x0 sL xs l Z i_L_law u0 Kv v 599 [] []) (hE671 : ∀ (v : PS), E671 v → XNl x0 sL xs l Z i_L_law u0 Kv v 671 [] []) (hE722 : ∀ (v : PS), E722 v → XNl x0 sL xs l Z i_L_law u0 Kv v 722 [] []) (hE739 : ∀ (v : PS), E739 v → XNl x0 sL xs l Z i_L_law u0 Kv v 739 [] []) (hE778 : ∀ (v : PS), E778 v → XNl x0 sL xs l Z i_L_law u0 Kv v 778 [] []) (hE795 : ∀ (v : PS), E795 v → XNl x0 sL xs l Z i_L_law u0 Kv v 795 [] []) (hE811 : ∀ (v : PS), E811 v → XNl x0 sL xs l Z i_L_law u0 Kv v 811 [] []) (hE847 : ∀ (v : PS), E847 v → XNl x0 sL xs l Z i_L_law u0 Kv v 847 [] []) (hE864 : ∀ (v : PS), E864 v → XNl x0 sL xs l Z i_L_law u0 Kv v 864 [] []) (hE903 : ∀ (v : PS), E903 v → XNl x0 sL xs l Z i_L_law u0 Kv v 903 [] []) (hE920 : ∀ (v : PS), E920 v → XNl x0 sL xs l Z i_L_law u0 Kv v 920 [] []) (hE959 : ∀ (v : PS), E959 v → XNl x0 sL xs l Z i_L_law u0 Kv v 959 [] []) (hE976 : ∀ (v : PS), E976 v → XNl x0 sL xs l Z i_L_law u0 Kv v 976 [] []) (hE1027 : ∀ (v : PS), E1027 v → XNl x0 sL xs l Z i_L_law u0 Kv v 1027 [] []) (hE1051 : ∀ (v : PS), E1051 v → XNl x0 sL xs l Z i_L_law u0 Kv v 1051 [] []) (hE1090 : ∀ (v : PS), E1090 v → XNl x0 sL xs l Z i_L_law u0 Kv v 1090 [] []) (hE1107 : ∀ (v : PS), E1107 v → XNl x0 sL xs l Z i_L_law u0 Kv v 1107 [] []) (hE1146 : ∀ (v : PS), E1146 v → XNl x0 sL xs l Z i_L_law u0 Kv v 1146 [] []) (hE1163 : ∀ (v : PS), E1163 v → XNl x0 sL xs l Z i_L_law u0 Kv v 1163 [] []) (hE1214 : ∀ (v : PS), E1214 v → XNl x0 sL xs l Z i_L_law u0 Kv v 1214 [] []) (hE1238 : ∀ (v : PS), E1238 v → XNl x0 sL xs l Z i_L_law u0 Kv v 1238 [] []) (hE1301 : ∀ (v : PS), E1301 v → XNl x0 sL xs l Z i_L_law u0 Kv v 1301 [] []) (hE1318 : ∀ (v : PS), E1318 v → XNl x0 sL xs l Z i_L_law u0 Kv v 1318 [] []) (hE1357 : ∀ (v : PS), E1357 v → XNl x0 sL xs l Z i_L_law u0 Kv v 1357 [] []) (hE1374 : ∀ (v : PS), E1374 v → XNl x0 sL xs l Z i_L_law u0 Kv v 1374 [] []) (hE1385 : ∀ (v : PS), E1385 v → XNl x0 sL xs l Z i_L_law u0 Kv v 1385 [] []) (k : (p_L_law_J1165 sL xs R E175 E223 E295 E367 E439 E511 E599 E671 E722 E739 E778 E795 E811 E847 E864 E903 E920 E959 E976 E1027 E1051 E1090 E1107 E1146 E1163 E1214 E1238 E1301 E1318 E1357 E1374 E1385 x0 x1 x2 x3 x4 u)) : XNl x0 sL xs l Z i_L_law u0 Kv u 1165 [(0, .ref x0), (1, .ref x1), (2, .ref x2), (3, .ref x3), (4, .int x4)] [] := by
  unfold p_L_law_J1165 at k
  obtain ⟨rv, v9, hK, hle_u, w9⟩ := t_L_law_J1379 l Z u0 sL xs x0 x1 x2 x3 x4 u hR hE175 hE223 hE295 hE367 hE439 hE511 hE599 hE671 hE722 hE739 hE778 hE795 hE811 hE847 hE864 hE903 hE920 hE959 hE976 hE1027 hE1051 hE1090 hE1107 hE1146 hE1163 hE1214 hE1238 hE1301 hE1318 hE1357 hE1374 hE1385 k
  refine ⟨rv, v9, hK, hle_u, ?_⟩
  intro p e s m args below meth c A H locs ls F hX hw hl
  obtain ⟨⟨hx, hb, hml, hown, hts⟩, hr, hlocks, hmn⟩ := id F
  refine lv_goto (tgt := 1379) hx hb d_L_law_1165 (by decide) ?_
  exact w9 p e s m args below meth c A H locs ls F hX hw (lv_sub hl [0, 1, 2, 3, 4] rfl)
set_option maxRecDepth 100000 in
set_option maxHeartbeats 4000000 in
theorem t_L_law_J1240 (l : Launch) (Z : XZ) (u0 : PS) (sL : Nat) (xs : Nat → Int32) {Kv : Option Value → PS → Prop} {R : Int32 → PS → Prop} {E175 : PS → Prop} {E223 : PS → Prop} {E295 : PS → Prop} {E367 : PS → Prop} {E439 : PS → Prop} {E511 : PS → Prop} {E599 : PS → Prop} {E671 : PS → Prop} {E722 : PS → Prop} {E739 : PS → Prop} {E778 : PS → Prop} {E795 : PS → Prop} {E811 : PS → Prop} {E847 : PS → Prop} {E864 : PS → Prop} {E903 : PS → Prop} {E920 : PS → Prop} {E959 : PS → Prop} {E976 : PS → Prop} {E1027 : PS → Prop} {E1051 : PS → Prop} {E1090 : PS → Prop} {E1107 : PS → Prop} {E1146 : PS → Prop} {E1163 : PS → Prop} {E1214 : PS → Prop} {E1238 : PS → Prop} {E1301 : PS → Prop} {E1318 : PS → Prop} {E1357 : PS → Prop} {E1374 : PS → Prop} {E1385 : PS → Prop} (x0 : Nat) (x1 : Nat) (x2 : Nat) (x3 : Nat) (x4 : Int32) (u : PS) (hR : ∀ (y4 : Int32) (v : PS), R y4 v → XNl x0 sL xs l Z i_L_law u0 Kv v 23 [(0, .ref x0), (1, .ref x1), (2, .ref x2), (3, .ref x3), (4, .int y4)] []) (hE175 : ∀ (v : PS), E175 v → XNl x0 sL xs l Z i_L_law u0 Kv v 175 [] []) (hE223 : ∀ (v : PS), E223 v → XNl x0 sL xs l Z i_L_law u0 Kv v 223 [] []) (hE295 : ∀ (v : PS), E295 v → XNl x0 sL xs l Z i_L_law u0 Kv v 295 [] []) (hE367 : ∀ (v : PS), E367 v → XNl x0 sL xs l Z i_L_law u0 Kv v 367 [] []) (hE439 : ∀ (v : PS), E439 v → XNl x0 sL xs l Z i_L_law u0 Kv v 439 [] []) (hE511 : ∀ (v : PS), E511 v → XNl x0 sL xs l Z i_L_law u0 Kv v 511 [] []) (hE599 : ∀ (v : PS), E599 v → XNl x0 sL xs l Z i_L_law u0 Kv v 599 [] []) (hE671 : ∀ (v : PS), E671 v → XNl x0 sL xs l Z i_L_law u0 Kv v 671 [] []) (hE722 : ∀ (v : PS), E722 v → XNl x0 sL xs l Z i_L_law u0 Kv v 722 [] []) (hE739 : ∀ (v : PS), E739 v → XNl x0 sL xs l Z i_L_law u0 Kv v 739 [] []) (hE778 : ∀ (v : PS), E778 v → XNl x0 sL xs l Z i_L_law u0 Kv v 778 [] []) (hE795 : ∀ (v : PS), E795 v → XNl x0 sL xs l Z i_L_law u0 Kv v 795 [] []) (hE811 : ∀ (v : PS), E811 v → XNl x0 sL xs l Z i_L_law u0 Kv v 811 [] []) (hE847 : ∀ (v : PS), E847 v → XNl x0 sL xs l Z i_L_law u0 Kv v 847 [] []) (hE864 : ∀ (v : PS), E864 v → XNl x0 sL xs l Z i_L_law u0 Kv v 864 [] []) (hE903 : ∀ (v : PS), E903 v → XNl x0 sL xs l Z i_L_law u0 Kv v 903 [] []) (hE920 : ∀ (v : PS), E920 v → XNl x0 sL xs l Z i_L_law u0 Kv v 920 [] []) (hE959 : ∀ (v : PS), E959 v → XNl x0 sL xs l Z i_L_law u0 Kv v 959 [] []) (hE976 : ∀ (v : PS), E976 v → XNl x0 sL xs l Z i_L_law u0 Kv v 976 [] []) (hE1027 : ∀ (v : PS), E1027 v → XNl x0 sL xs l Z i_L_law u0 Kv v 1027 [] []) (hE1051 : ∀ (v : PS), E1051 v → XNl x0 sL xs l Z i_L_law u0 Kv v 1051 [] []) (hE1090 : ∀ (v : PS), E1090 v → XNl x0 sL xs l Z i_L_law u0 Kv v 1090 [] []) (hE1107 : ∀ (v : PS), E1107 v → XNl x0 sL xs l Z i_L_law u0 Kv v 1107 [] []) (hE1146 : ∀ (v : PS), E1146 v → XNl x0 sL xs l Z i_L_law u0 Kv v 1146 [] []) (hE1163 : ∀ (v : PS), E1163 v → XNl x0 sL xs l Z i_L_law u0 Kv v 1163 [] []) (hE1214 : ∀ (v : PS), E1214 v → XNl x0 sL xs l Z i_L_law u0 Kv v 1214 [] []) (hE1238 : ∀ (v : PS), E1238 v → XNl x0 sL xs l Z i_L_law u0 Kv v 1238 [] []) (hE1301 : ∀ (v : PS), E1301 v → XNl x0 sL xs l Z i_L_law u0 Kv v 1301 [] []) (hE1318 : ∀ (v : PS), E1318 v → XNl x0 sL xs l Z i_L_law u0 Kv v 1318 [] []) (hE1357 : ∀ (v : PS), E1357 v → XNl x0 sL xs l Z i_L_law u0 Kv v 1357 [] []) (hE1374 : ∀ (v : PS), E1374 v → XNl x0 sL xs l Z i_L_law u0 Kv v 1374 [] []) (hE1385 : ∀ (v : PS), E1385 v → XNl x0 sL xs l Z i_L_law u0 Kv v 1385 [] []) (k : (p_L_law_J1240 sL xs R E175 E223 E295 E367 E439 E511 E599 E671 E722 E739 E778 E795 E811 E847 E864 E903 E920 E959 E976 E1027 E1051 E1090 E1107 E1146 E1163 E1214 E1238 E1301 E1318 E1357 E1374 E1385 x0 x1 x2 x3 x4 u)) : XNl x0 sL xs l Z i_L_law u0 Kv u 1240 [(0, .ref x0), (1, .ref x1), (2, .ref x2), (3, .ref x3), (4, .int x4)] [] := by
  unfold p_L_law_J1240 at k
  obtain ⟨rv, v9, hK, hle_u, w9⟩ := t_L_law_J1379 l Z u0 sL xs x0 x1 x2 x3 x4 u hR hE175 hE223 hE295 hE367 hE439 hE511 hE599 hE671 hE722 hE739 hE778 hE795 hE811 hE847 hE864 hE903 hE920 hE959 hE976 hE1027 hE1051 hE1090 hE1107 hE1146 hE1163 hE1214 hE1238 hE1301 hE1318 hE1357 hE1374 hE1385 k
  refine ⟨rv, v9, hK, hle_u, ?_⟩
  intro p e s m args below meth c A H locs ls F hX hw hl
  obtain ⟨⟨hx, hb, hml, hown, hts⟩, hr, hlocks, hmn⟩ := id F
  refine lv_goto (tgt := 1379) hx hb d_L_law_1240 (by decide) ?_
  exact w9 p e s m args below meth c A H locs ls F hX hw (lv_sub hl [0, 1, 2, 3, 4] rfl)
set_option maxRecDepth 100000 in
set_option maxHeartbeats 4000000 in
theorem t_L_law_J1234 (l : Launch) (Z : XZ) (u0 : PS) (sL : Nat) (xs : Nat → Int32) {Kv : Option Value → PS → Prop} {R : Int32 → PS → Prop} {E175 : PS → Prop} {E223 : PS → Prop} {E295 : PS → Prop} {E367 : PS → Prop} {E439 : PS → Prop} {E511 : PS → Prop} {E599 : PS → Prop} {E671 : PS → Prop} {E722 : PS → Prop} {E739 : PS → Prop} {E778 : PS → Prop} {E795 : PS → Prop} {E811 : PS → Prop} {E847 : PS → Prop} {E864 : PS → Prop} {E903 : PS → Prop} {E920 : PS → Prop} {E959 : PS → Prop} {E976 : PS → Prop} {E1027 : PS → Prop} {E1051 : PS → Prop} {E1090 : PS → Prop} {E1107 : PS → Prop} {E1146 : PS → Prop} {E1163 : PS → Prop} {E1214 : PS → Prop} {E1238 : PS → Prop} {E1301 : PS → Prop} {E1318 : PS → Prop} {E1357 : PS → Prop} {E1374 : PS → Prop} {E1385 : PS → Prop} (x0 : Nat) (x1 : Nat) (x2 : Nat) (x3 : Nat) (x4 : Int32) (s0 : Int64) (s1 : Int64) (u : PS) (hR : ∀ (y4 : Int32) (v : PS), R y4 v → XNl x0 sL xs l Z i_L_law u0 Kv v 23 [(0, .ref x0), (1, .ref x1), (2, .ref x2), (3, .ref x3), (4, .int y4)] []) (hE175 : ∀ (v : PS), E175 v → XNl x0 sL xs l Z i_L_law u0 Kv v 175 [] []) (hE223 : ∀ (v : PS), E223 v → XNl x0 sL xs l Z i_L_law u0 Kv v 223 [] []) (hE295 : ∀ (v : PS), E295 v → XNl x0 sL xs l Z i_L_law u0 Kv v 295 [] []) (hE367 : ∀ (v : PS), E367 v → XNl x0 sL xs l Z i_L_law u0 Kv v 367 [] []) (hE439 : ∀ (v : PS), E439 v → XNl x0 sL xs l Z i_L_law u0 Kv v 439 [] []) (hE511 : ∀ (v : PS), E511 v → XNl x0 sL xs l Z i_L_law u0 Kv v 511 [] []) (hE599 : ∀ (v : PS), E599 v → XNl x0 sL xs l Z i_L_law u0 Kv v 599 [] []) (hE671 : ∀ (v : PS), E671 v → XNl x0 sL xs l Z i_L_law u0 Kv v 671 [] []) (hE722 : ∀ (v : PS), E722 v → XNl x0 sL xs l Z i_L_law u0 Kv v 722 [] []) (hE739 : ∀ (v : PS), E739 v → XNl x0 sL xs l Z i_L_law u0 Kv v 739 [] []) (hE778 : ∀ (v : PS), E778 v → XNl x0 sL xs l Z i_L_law u0 Kv v 778 [] []) (hE795 : ∀ (v : PS), E795 v → XNl x0 sL xs l Z i_L_law u0 Kv v 795 [] []) (hE811 : ∀ (v : PS), E811 v → XNl x0 sL xs l Z i_L_law u0 Kv v 811 [] []) (hE847 : ∀ (v : PS), E847 v → XNl x0 sL xs l Z i_L_law u0 Kv v 847 [] []) (hE864 : ∀ (v : PS), E864 v → XNl x0 sL xs l Z i_L_law u0 Kv v 864 [] []) (hE903 : ∀ (v : PS), E903 v → XNl x0 sL xs l Z i_L_law u0 Kv v 903 [] []) (hE920 : ∀ (v : PS), E920 v → XNl x0 sL xs l Z i_L_law u0 Kv v 920 [] []) (hE959 : ∀ (v : PS), E959 v → XNl x0 sL xs l Z i_L_law u0 Kv v 959 [] []) (hE976 : ∀ (v : PS), E976 v → XNl x0 sL xs l Z i_L_law u0 Kv v 976 [] []) (hE1027 : ∀ (v : PS), E1027 v → XNl x0 sL xs l Z i_L_law u0 Kv v 1027 [] []) (hE1051 : ∀ (v : PS), E1051 v → XNl x0 sL xs l Z i_L_law u0 Kv v 1051 [] []) (hE1090 : ∀ (v : PS), E1090 v → XNl x0 sL xs l Z i_L_law u0 Kv v 1090 [] []) (hE1107 : ∀ (v : PS), E1107 v → XNl x0 sL xs l Z i_L_law u0 Kv v 1107 [] []) (hE1146 : ∀ (v : PS), E1146 v → XNl x0 sL xs l Z i_L_law u0 Kv v 1146 [] []) (hE1163 : ∀ (v : PS), E1163 v → XNl x0 sL xs l Z i_L_law u0 Kv v 1163 [] []) (hE1214 : ∀ (v : PS), E1214 v → XNl x0 sL xs l Z i_L_law u0 Kv v 1214 [] []) (hE1238 : ∀ (v : PS), E1238 v → XNl x0 sL xs l Z i_L_law u0 Kv v 1238 [] []) (hE1301 : ∀ (v : PS), E1301 v → XNl x0 sL xs l Z i_L_law u0 Kv v 1301 [] []) (hE1318 : ∀ (v : PS), E1318 v → XNl x0 sL xs l Z i_L_law u0 Kv v 1318 [] []) (hE1357 : ∀ (v : PS), E1357 v → XNl x0 sL xs l Z i_L_law u0 Kv v 1357 [] []) (hE1374 : ∀ (v : PS), E1374 v → XNl x0 sL xs l Z i_L_law u0 Kv v 1374 [] []) (hE1385 : ∀ (v : PS), E1385 v → XNl x0 sL xs l Z i_L_law u0 Kv v 1385 [] []) (k : (p_L_law_J1234 sL xs R E175 E223 E295 E367 E439 E511 E599 E671 E722 E739 E778 E795 E811 E847 E864 E903 E920 E959 E976 E1027 E1051 E1090 E1107 E1146 E1163 E1214 E1238 E1301 E1318 E1357 E1374 E1385 x0 x1 x2 x3 x4 s0 s1 u)) : XNl x0 sL xs l Z i_L_law u0 Kv u 1234 [(0, .ref x0), (1, .ref x1), (2, .ref x2), (3, .ref x3), (4, .int x4)] [.long s1, .long s0] := by
  unfold p_L_law_J1234 at k
  by_cases hc1 : (lg_cmp s0 s1) = 0
  · have k := k.1 hc1
    obtain ⟨rv, v9, hK, hle_u, w9⟩ := t_L_law_J1240 l Z u0 sL xs x0 x1 x2 x3 x4 u hR hE175 hE223 hE295 hE367 hE439 hE511 hE599 hE671 hE722 hE739 hE778 hE795 hE811 hE847 hE864 hE903 hE920 hE959 hE976 hE1027 hE1051 hE1090 hE1107 hE1146 hE1163 hE1214 hE1238 hE1301 hE1318 hE1357 hE1374 hE1385 k
    refine ⟨rv, v9, hK, hle_u, ?_⟩
    intro p e s m args below meth c A H locs ls F hX hw hl
    obtain ⟨⟨hx, hb, hml, hown, hts⟩, hr, hlocks, hmn⟩ := id F
    refine W.lcmp hx hb d_L_law_1234 ?_
    refine lv_if_eq (tgt := 1240) hx hb d_L_law_1235 (by decide) (fun _ => ?_) (fun c9 => absurd hc1 c9)
    exact w9 p e s m args below meth c A H locs ls F hX hw (lv_sub hl [0, 1, 2, 3, 4] rfl)
  · have k := k.2 hc1
    obtain ⟨rv, v9, hK, hle_u, w9⟩ := hE1238 u k
    refine ⟨rv, v9, hK, hle_u, ?_⟩
    intro p e s m args below meth c A H locs ls F hX hw hl
    obtain ⟨⟨hx, hb, hml, hown, hts⟩, hr, hlocks, hmn⟩ := id F
    refine W.lcmp hx hb d_L_law_1234 ?_
    refine lv_if_eq (tgt := 1240) hx hb d_L_law_1235 (by decide) (fun c9 => absurd c9 hc1) (fun _ => ?_)
    exact w9 p e s m args below meth c A H locs ls F hX hw (lv_sub hl [] rfl)
set_option maxRecDepth 100000 in
set_option maxHeartbeats 4000000 in
theorem t_L_law_J1320 (l : Launch) (Z : XZ) (u0 : PS) (sL : Nat) (xs : Nat → Int32) {Kv : Option Value → PS → Prop} {R : Int32 → PS → Prop} {E175 : PS → Prop} {E223 : PS → Prop} {E295 : PS → Prop} {E367 : PS → Prop} {E439 : PS → Prop} {E511 : PS → Prop} {E599 : PS → Prop} {E671 : PS → Prop} {E722 : PS → Prop} {E739 : PS → Prop} {E778 : PS → Prop} {E795 : PS → Prop} {E811 : PS → Prop} {E847 : PS → Prop} {E864 : PS → Prop} {E903 : PS → Prop} {E920 : PS → Prop} {E959 : PS → Prop} {E976 : PS → Prop} {E1027 : PS → Prop} {E1051 : PS → Prop} {E1090 : PS → Prop} {E1107 : PS → Prop} {E1146 : PS → Prop} {E1163 : PS → Prop} {E1214 : PS → Prop} {E1238 : PS → Prop} {E1301 : PS → Prop} {E1318 : PS → Prop} {E1357 : PS → Prop} {E1374 : PS → Prop} {E1385 : PS → Prop} (x0 : Nat) (x1 : Nat) (x2 : Nat) (x3 : Nat) (x4 : Int32) (u : PS) (hR : ∀ (y4 : Int32) (v : PS), R y4 v → XNl x0 sL xs l Z i_L_law u0 Kv v 23 [(0, .ref x0), (1, .ref x1), (2, .ref x2), (3, .ref x3), (4, .int y4)] []) (hE175 : ∀ (v : PS), E175 v → XNl x0 sL xs l Z i_L_law u0 Kv v 175 [] []) (hE223 : ∀ (v : PS), E223 v → XNl x0 sL xs l Z i_L_law u0 Kv v 223 [] []) (hE295 : ∀ (v : PS), E295 v → XNl x0 sL xs l Z i_L_law u0 Kv v 295 [] []) (hE367 : ∀ (v : PS), E367 v → XNl x0 sL xs l Z i_L_law u0 Kv v 367 [] []) (hE439 : ∀ (v : PS), E439 v → XNl x0 sL xs l Z i_L_law u0 Kv v 439 [] []) (hE511 : ∀ (v : PS), E511 v → XNl x0 sL xs l Z i_L_law u0 Kv v 511 [] []) (hE599 : ∀ (v : PS), E599 v → XNl x0 sL xs l Z i_L_law u0 Kv v 599 [] []) (hE671 : ∀ (v : PS), E671 v → XNl x0 sL xs l Z i_L_law u0 Kv v 671 [] []) (hE722 : ∀ (v : PS), E722 v → XNl x0 sL xs l Z i_L_law u0 Kv v 722 [] []) (hE739 : ∀ (v : PS), E739 v → XNl x0 sL xs l Z i_L_law u0 Kv v 739 [] []) (hE778 : ∀ (v : PS), E778 v → XNl x0 sL xs l Z i_L_law u0 Kv v 778 [] []) (hE795 : ∀ (v : PS), E795 v → XNl x0 sL xs l Z i_L_law u0 Kv v 795 [] []) (hE811 : ∀ (v : PS), E811 v → XNl x0 sL xs l Z i_L_law u0 Kv v 811 [] []) (hE847 : ∀ (v : PS), E847 v → XNl x0 sL xs l Z i_L_law u0 Kv v 847 [] []) (hE864 : ∀ (v : PS), E864 v → XNl x0 sL xs l Z i_L_law u0 Kv v 864 [] []) (hE903 : ∀ (v : PS), E903 v → XNl x0 sL xs l Z i_L_law u0 Kv v 903 [] []) (hE920 : ∀ (v : PS), E920 v → XNl x0 sL xs l Z i_L_law u0 Kv v 920 [] []) (hE959 : ∀ (v : PS), E959 v → XNl x0 sL xs l Z i_L_law u0 Kv v 959 [] []) (hE976 : ∀ (v : PS), E976 v → XNl x0 sL xs l Z i_L_law u0 Kv v 976 [] []) (hE1027 : ∀ (v : PS), E1027 v → XNl x0 sL xs l Z i_L_law u0 Kv v 1027 [] []) (hE1051 : ∀ (v : PS), E1051 v → XNl x0 sL xs l Z i_L_law u0 Kv v 1051 [] []) (hE1090 : ∀ (v : PS), E1090 v → XNl x0 sL xs l Z i_L_law u0 Kv v 1090 [] []) (hE1107 : ∀ (v : PS), E1107 v → XNl x0 sL xs l Z i_L_law u0 Kv v 1107 [] []) (hE1146 : ∀ (v : PS), E1146 v → XNl x0 sL xs l Z i_L_law u0 Kv v 1146 [] []) (hE1163 : ∀ (v : PS), E1163 v → XNl x0 sL xs l Z i_L_law u0 Kv v 1163 [] []) (hE1214 : ∀ (v : PS), E1214 v → XNl x0 sL xs l Z i_L_law u0 Kv v 1214 [] []) (hE1238 : ∀ (v : PS), E1238 v → XNl x0 sL xs l Z i_L_law u0 Kv v 1238 [] []) (hE1301 : ∀ (v : PS), E1301 v → XNl x0 sL xs l Z i_L_law u0 Kv v 1301 [] []) (hE1318 : ∀ (v : PS), E1318 v → XNl x0 sL xs l Z i_L_law u0 Kv v 1318 [] []) (hE1357 : ∀ (v : PS), E1357 v → XNl x0 sL xs l Z i_L_law u0 Kv v 1357 [] []) (hE1374 : ∀ (v : PS), E1374 v → XNl x0 sL xs l Z i_L_law u0 Kv v 1374 [] []) (hE1385 : ∀ (v : PS), E1385 v → XNl x0 sL xs l Z i_L_law u0 Kv v 1385 [] []) (k : (p_L_law_J1320 sL xs R E175 E223 E295 E367 E439 E511 E599 E671 E722 E739 E778 E795 E811 E847 E864 E903 E920 E959 E976 E1027 E1051 E1090 E1107 E1146 E1163 E1214 E1238 E1301 E1318 E1357 E1374 E1385 x0 x1 x2 x3 x4 u)) : XNl x0 sL xs l Z i_L_law u0 Kv u 1320 [(0, .ref x0), (1, .ref x1), (2, .ref x2), (3, .ref x3), (4, .int x4)] [] := by
  unfold p_L_law_J1320 at k
  obtain ⟨rv, v9, hK, hle_u, w9⟩ := t_L_law_J1379 l Z u0 sL xs x0 x1 x2 x3 x4 u hR hE175 hE223 hE295 hE367 hE439 hE511 hE599 hE671 hE722 hE739 hE778 hE795 hE811 hE847 hE864 hE903 hE920 hE959 hE976 hE1027 hE1051 hE1090 hE1107 hE1146 hE1163 hE1214 hE1238 hE1301 hE1318 hE1357 hE1374 hE1385 k
  refine ⟨rv, v9, hK, hle_u, ?_⟩
  intro p e s m args below meth c A H locs ls F hX hw hl
  obtain ⟨⟨hx, hb, hml, hown, hts⟩, hr, hlocks, hmn⟩ := id F
  refine lv_goto (tgt := 1379) hx hb d_L_law_1320 (by decide) ?_
  exact w9 p e s m args below meth c A H locs ls F hX hw (lv_sub hl [0, 1, 2, 3, 4] rfl)
set_option maxRecDepth 100000 in
set_option maxHeartbeats 4000000 in
theorem t_L_law_J1376 (l : Launch) (Z : XZ) (u0 : PS) (sL : Nat) (xs : Nat → Int32) {Kv : Option Value → PS → Prop} {R : Int32 → PS → Prop} {E175 : PS → Prop} {E223 : PS → Prop} {E295 : PS → Prop} {E367 : PS → Prop} {E439 : PS → Prop} {E511 : PS → Prop} {E599 : PS → Prop} {E671 : PS → Prop} {E722 : PS → Prop} {E739 : PS → Prop} {E778 : PS → Prop} {E795 : PS → Prop} {E811 : PS → Prop} {E847 : PS → Prop} {E864 : PS → Prop} {E903 : PS → Prop} {E920 : PS → Prop} {E959 : PS → Prop} {E976 : PS → Prop} {E1027 : PS → Prop} {E1051 : PS → Prop} {E1090 : PS → Prop} {E1107 : PS → Prop} {E1146 : PS → Prop} {E1163 : PS → Prop} {E1214 : PS → Prop} {E1238 : PS → Prop} {E1301 : PS → Prop} {E1318 : PS → Prop} {E1357 : PS → Prop} {E1374 : PS → Prop} {E1385 : PS → Prop} (x0 : Nat) (x1 : Nat) (x2 : Nat) (x3 : Nat) (x4 : Int32) (u : PS) (hR : ∀ (y4 : Int32) (v : PS), R y4 v → XNl x0 sL xs l Z i_L_law u0 Kv v 23 [(0, .ref x0), (1, .ref x1), (2, .ref x2), (3, .ref x3), (4, .int y4)] []) (hE175 : ∀ (v : PS), E175 v → XNl x0 sL xs l Z i_L_law u0 Kv v 175 [] []) (hE223 : ∀ (v : PS), E223 v → XNl x0 sL xs l Z i_L_law u0 Kv v 223 [] []) (hE295 : ∀ (v : PS), E295 v → XNl x0 sL xs l Z i_L_law u0 Kv v 295 [] []) (hE367 : ∀ (v : PS), E367 v → XNl x0 sL xs l Z i_L_law u0 Kv v 367 [] []) (hE439 : ∀ (v : PS), E439 v → XNl x0 sL xs l Z i_L_law u0 Kv v 439 [] []) (hE511 : ∀ (v : PS), E511 v → XNl x0 sL xs l Z i_L_law u0 Kv v 511 [] []) (hE599 : ∀ (v : PS), E599 v → XNl x0 sL xs l Z i_L_law u0 Kv v 599 [] []) (hE671 : ∀ (v : PS), E671 v → XNl x0 sL xs l Z i_L_law u0 Kv v 671 [] []) (hE722 : ∀ (v : PS), E722 v → XNl x0 sL xs l Z i_L_law u0 Kv v 722 [] []) (hE739 : ∀ (v : PS), E739 v → XNl x0 sL xs l Z i_L_law u0 Kv v 739 [] []) (hE778 : ∀ (v : PS), E778 v → XNl x0 sL xs l Z i_L_law u0 Kv v 778 [] []) (hE795 : ∀ (v : PS), E795 v → XNl x0 sL xs l Z i_L_law u0 Kv v 795 [] []) (hE811 : ∀ (v : PS), E811 v → XNl x0 sL xs l Z i_L_law u0 Kv v 811 [] []) (hE847 : ∀ (v : PS), E847 v → XNl x0 sL xs l Z i_L_law u0 Kv v 847 [] []) (hE864 : ∀ (v : PS), E864 v → XNl x0 sL xs l Z i_L_law u0 Kv v 864 [] []) (hE903 : ∀ (v : PS), E903 v → XNl x0 sL xs l Z i_L_law u0 Kv v 903 [] []) (hE920 : ∀ (v : PS), E920 v → XNl x0 sL xs l Z i_L_law u0 Kv v 920 [] []) (hE959 : ∀ (v : PS), E959 v → XNl x0 sL xs l Z i_L_law u0 Kv v 959 [] []) (hE976 : ∀ (v : PS), E976 v → XNl x0 sL xs l Z i_L_law u0 Kv v 976 [] []) (hE1027 : ∀ (v : PS), E1027 v → XNl x0 sL xs l Z i_L_law u0 Kv v 1027 [] []) (hE1051 : ∀ (v : PS), E1051 v → XNl x0 sL xs l Z i_L_law u0 Kv v 1051 [] []) (hE1090 : ∀ (v : PS), E1090 v → XNl x0 sL xs l Z i_L_law u0 Kv v 1090 [] []) (hE1107 : ∀ (v : PS), E1107 v → XNl x0 sL xs l Z i_L_law u0 Kv v 1107 [] []) (hE1146 : ∀ (v : PS), E1146 v → XNl x0 sL xs l Z i_L_law u0 Kv v 1146 [] []) (hE1163 : ∀ (v : PS), E1163 v → XNl x0 sL xs l Z i_L_law u0 Kv v 1163 [] []) (hE1214 : ∀ (v : PS), E1214 v → XNl x0 sL xs l Z i_L_law u0 Kv v 1214 [] []) (hE1238 : ∀ (v : PS), E1238 v → XNl x0 sL xs l Z i_L_law u0 Kv v 1238 [] []) (hE1301 : ∀ (v : PS), E1301 v → XNl x0 sL xs l Z i_L_law u0 Kv v 1301 [] []) (hE1318 : ∀ (v : PS), E1318 v → XNl x0 sL xs l Z i_L_law u0 Kv v 1318 [] []) (hE1357 : ∀ (v : PS), E1357 v → XNl x0 sL xs l Z i_L_law u0 Kv v 1357 [] []) (hE1374 : ∀ (v : PS), E1374 v → XNl x0 sL xs l Z i_L_law u0 Kv v 1374 [] []) (hE1385 : ∀ (v : PS), E1385 v → XNl x0 sL xs l Z i_L_law u0 Kv v 1385 [] []) (k : (p_L_law_J1376 sL xs R E175 E223 E295 E367 E439 E511 E599 E671 E722 E739 E778 E795 E811 E847 E864 E903 E920 E959 E976 E1027 E1051 E1090 E1107 E1146 E1163 E1214 E1238 E1301 E1318 E1357 E1374 E1385 x0 x1 x2 x3 x4 u)) : XNl x0 sL xs l Z i_L_law u0 Kv u 1376 [(0, .ref x0), (1, .ref x1), (2, .ref x2), (3, .ref x3), (4, .int x4)] [] := by
  unfold p_L_law_J1376 at k
  obtain ⟨rv, v9, hK, hle_u, w9⟩ := t_L_law_J1379 l Z u0 sL xs x0 x1 x2 x3 x4 u hR hE175 hE223 hE295 hE367 hE439 hE511 hE599 hE671 hE722 hE739 hE778 hE795 hE811 hE847 hE864 hE903 hE920 hE959 hE976 hE1027 hE1051 hE1090 hE1107 hE1146 hE1163 hE1214 hE1238 hE1301 hE1318 hE1357 hE1374 hE1385 k
  refine ⟨rv, v9, hK, hle_u, ?_⟩
  intro p e s m args below meth c A H locs ls F hX hw hl
  obtain ⟨⟨hx, hb, hml, hown, hts⟩, hr, hlocks, hmn⟩ := id F
  refine lv_goto (tgt := 1379) hx hb d_L_law_1376 (by decide) ?_
  exact w9 p e s m args below meth c A H locs ls F hX hw (lv_sub hl [0, 1, 2, 3, 4] rfl)
set_option maxRecDepth 100000 in
set_option maxHeartbeats 4000000 in
theorem t_L_law_L23 (l : Launch) (Z : XZ) (u0 : PS) (sL : Nat) (xs : Nat → Int32) {Kv : Option Value → PS → Prop} {E175 : PS → Prop} {E223 : PS → Prop} {E295 : PS → Prop} {E367 : PS → Prop} {E439 : PS → Prop} {E511 : PS → Prop} {E599 : PS → Prop} {E671 : PS → Prop} {E722 : PS → Prop} {E739 : PS → Prop} {E778 : PS → Prop} {E795 : PS → Prop} {E811 : PS → Prop} {E847 : PS → Prop} {E864 : PS → Prop} {E903 : PS → Prop} {E920 : PS → Prop} {E959 : PS → Prop} {E976 : PS → Prop} {E1027 : PS → Prop} {E1051 : PS → Prop} {E1090 : PS → Prop} {E1107 : PS → Prop} {E1146 : PS → Prop} {E1163 : PS → Prop} {E1214 : PS → Prop} {E1238 : PS → Prop} {E1301 : PS → Prop} {E1318 : PS → Prop} {E1357 : PS → Prop} {E1374 : PS → Prop} {E1385 : PS → Prop} (x0 : Nat) (x1 : Nat) (x2 : Nat) (x3 : Nat) (hE175 : ∀ (v : PS), E175 v → XNl x0 sL xs l Z i_L_law u0 Kv v 175 [] []) (hE223 : ∀ (v : PS), E223 v → XNl x0 sL xs l Z i_L_law u0 Kv v 223 [] []) (hE295 : ∀ (v : PS), E295 v → XNl x0 sL xs l Z i_L_law u0 Kv v 295 [] []) (hE367 : ∀ (v : PS), E367 v → XNl x0 sL xs l Z i_L_law u0 Kv v 367 [] []) (hE439 : ∀ (v : PS), E439 v → XNl x0 sL xs l Z i_L_law u0 Kv v 439 [] []) (hE511 : ∀ (v : PS), E511 v → XNl x0 sL xs l Z i_L_law u0 Kv v 511 [] []) (hE599 : ∀ (v : PS), E599 v → XNl x0 sL xs l Z i_L_law u0 Kv v 599 [] []) (hE671 : ∀ (v : PS), E671 v → XNl x0 sL xs l Z i_L_law u0 Kv v 671 [] []) (hE722 : ∀ (v : PS), E722 v → XNl x0 sL xs l Z i_L_law u0 Kv v 722 [] []) (hE739 : ∀ (v : PS), E739 v → XNl x0 sL xs l Z i_L_law u0 Kv v 739 [] []) (hE778 : ∀ (v : PS), E778 v → XNl x0 sL xs l Z i_L_law u0 Kv v 778 [] []) (hE795 : ∀ (v : PS), E795 v → XNl x0 sL xs l Z i_L_law u0 Kv v 795 [] []) (hE811 : ∀ (v : PS), E811 v → XNl x0 sL xs l Z i_L_law u0 Kv v 811 [] []) (hE847 : ∀ (v : PS), E847 v → XNl x0 sL xs l Z i_L_law u0 Kv v 847 [] []) (hE864 : ∀ (v : PS), E864 v → XNl x0 sL xs l Z i_L_law u0 Kv v 864 [] []) (hE903 : ∀ (v : PS), E903 v → XNl x0 sL xs l Z i_L_law u0 Kv v 903 [] []) (hE920 : ∀ (v : PS), E920 v → XNl x0 sL xs l Z i_L_law u0 Kv v 920 [] []) (hE959 : ∀ (v : PS), E959 v → XNl x0 sL xs l Z i_L_law u0 Kv v 959 [] []) (hE976 : ∀ (v : PS), E976 v → XNl x0 sL xs l Z i_L_law u0 Kv v 976 [] []) (hE1027 : ∀ (v : PS), E1027 v → XNl x0 sL xs l Z i_L_law u0 Kv v 1027 [] []) (hE1051 : ∀ (v : PS), E1051 v → XNl x0 sL xs l Z i_L_law u0 Kv v 1051 [] []) (hE1090 : ∀ (v : PS), E1090 v → XNl x0 sL xs l Z i_L_law u0 Kv v 1090 [] []) (hE1107 : ∀ (v : PS), E1107 v → XNl x0 sL xs l Z i_L_law u0 Kv v 1107 [] []) (hE1146 : ∀ (v : PS), E1146 v → XNl x0 sL xs l Z i_L_law u0 Kv v 1146 [] []) (hE1163 : ∀ (v : PS), E1163 v → XNl x0 sL xs l Z i_L_law u0 Kv v 1163 [] []) (hE1214 : ∀ (v : PS), E1214 v → XNl x0 sL xs l Z i_L_law u0 Kv v 1214 [] []) (hE1238 : ∀ (v : PS), E1238 v → XNl x0 sL xs l Z i_L_law u0 Kv v 1238 [] []) (hE1301 : ∀ (v : PS), E1301 v → XNl x0 sL xs l Z i_L_law u0 Kv v 1301 [] []) (hE1318 : ∀ (v : PS), E1318 v → XNl x0 sL xs l Z i_L_law u0 Kv v 1318 [] []) (hE1357 : ∀ (v : PS), E1357 v → XNl x0 sL xs l Z i_L_law u0 Kv v 1357 [] []) (hE1374 : ∀ (v : PS), E1374 v → XNl x0 sL xs l Z i_L_law u0 Kv v 1374 [] []) (hE1385 : ∀ (v : PS), E1385 v → XNl x0 sL xs l Z i_L_law u0 Kv v 1385 [] []) : ∀ (n : Nat) (x4 : Int32) (u : PS), p_L_law_L23 sL xs x0 x1 x2 x3 E175 E223 E295 E367 E439 E511 E599 E671 E722 E739 E778 E795 E811 E847 E864 E903 E920 E959 E976 E1027 E1051 E1090 E1107 E1146 E1163 E1214 E1238 E1301 E1318 E1357 E1374 E1385 n x4 u → XNl x0 sL xs l Z i_L_law u0 Kv u 23 [(0, .ref x0), (1, .ref x1), (2, .ref x2), (3, .ref x3), (4, .int x4)] [] := by
  intro n
  induction n with
  | zero => intro x4 u k; exact False.elim k
  | succ n ih =>
    intro x4 u k
    rw [p_L_law_L23] at k
    obtain ⟨h1, k⟩ := k
    by_cases hc2 : ((Int32.ofNat sL) - (5 : Int32)) < x4
    · have k := k.1 hc2
      obtain ⟨rv, v9, hK, hle_u, w9⟩ := hE1385 u k
      refine ⟨rv, v9, hK, hle_u, ?_⟩
      intro p e s m args below meth c A H locs ls F hX hw hl
      obtain ⟨⟨hx, hb, hml, hown, hts⟩, hr, hlocks, hmn⟩ := id F
      refine lv_iload hx hb d_L_law_23 (lv_at hl 4 rfl) ?_
      refine lv_aload_n hx hb d_L_law_25 rfl (lv_at hl 0 rfl) ?_
      refine xr_slen hx hb hX hw d_L_law_26 ?_
      refine lv_iconst (v := 5) hx hb d_L_law_27 (by decide) ?_
      refine lv_isub hx hb d_L_law_28 ?_
      refine lv_icmp_gt (tgt := 1385) hx hb d_L_law_29 (by decide) (fun _ => ?_) (fun c9 => absurd hc2 c9)
      exact w9 p e s m args below meth c A H locs ls F hX hw (lv_sub hl [] rfl)
    · have k := k.2 hc2
      obtain ⟨h3, k⟩ := k
      by_cases hc4 : ((xs x4.toNatClampNeg) &&& (31 : Int32)) = 0
      · have k := k.1 hc4
        obtain ⟨h24, k⟩ := k
        obtain ⟨h25, k⟩ := k
        obtain ⟨_, u_264, ⟨r_265, rfl, k⟩, hM26⟩ := c_L_constant l Z x1 (xs (x4 + (1 : Int32)).toNatClampNeg) (xs (x4 + (2 : Int32)).toNatClampNeg) u _ k
        obtain ⟨h27, k⟩ := k
        obtain ⟨h28, k⟩ := k
        obtain ⟨h30, k⟩ := k
        obtain ⟨_, u_268, ⟨rfl, k⟩, hM29⟩ := c_M_constant l Z x2 (xs (x4 + (1 : Int32)).toNatClampNeg) (xs (x4 + (2 : Int32)).toNatClampNeg) u_264 _ k
        obtain ⟨h32, k⟩ := k
        obtain ⟨_, u_269, ⟨r_270, rfl, k⟩, hM31⟩ := c_M_thrown l Z x2 u_268 _ k
        by_cases hc33 : r_270 = r_265
        · have k := k.1 hc33
          obtain ⟨rv, v9, hK, hle_u_269, w9⟩ := t_L_law_J1379 l Z u0 sL xs x0 x1 x2 x3 x4 u_269 ih hE175 hE223 hE295 hE367 hE439 hE511 hE599 hE671 hE722 hE739 hE778 hE795 hE811 hE847 hE864 hE903 hE920 hE959 hE976 hE1027 hE1051 hE1090 hE1107 hE1146 hE1163 hE1214 hE1238 hE1301 hE1318 hE1357 hE1374 hE1385 k
          have hle_u_268 : x_le u_268 v9 := (hM31.1).tr hle_u_269
          have hle_u_264 : x_le u_264 v9 := (hM29.1).tr hle_u_268
          have hle_u : x_le u v9 := (hM26.1).tr hle_u_264
          refine ⟨rv, v9, hK, hle_u, ?_⟩
          intro p e s m args below meth c A H locs ls F hX hw hl
          obtain ⟨⟨hx, hb, hml, hown, hts⟩, hr, hlocks, hmn⟩ := id F
          refine lv_iload hx hb d_L_law_23 (lv_at hl 4 rfl) ?_
          refine lv_aload_n hx hb d_L_law_25 rfl (lv_at hl 0 rfl) ?_
          refine xr_slen hx hb hX hw d_L_law_26 ?_
          refine lv_iconst (v := 5) hx hb d_L_law_27 (by decide) ?_
          refine lv_isub hx hb d_L_law_28 ?_
          refine lv_icmp_gt (tgt := 1385) hx hb d_L_law_29 (by decide) (fun c9 => absurd c9 hc2) (fun _ => ?_)
          refine lv_aload_n hx hb d_L_law_32 rfl (lv_at hl 0 rfl) ?_
          refine lv_iload hx hb d_L_law_33 (lv_at hl 4 rfl) ?_
          refine xr_sld hx hb hX hw h3 d_L_law_35 ?_
          refine lv_bipush (v := 31) hx hb d_L_law_36 (by decide) ?_
          refine lv_iand hx hb d_L_law_38 ?_
          refine lv_tableIn (off := 93) (tgt := 132) hx hb d_L_law_39 (by rw [hc4]; decide) (by rw [hc4]; decide) (by rw [hc4]; rfl) (by decide) ?_
          refine lv_aload_n hx hb d_L_law_132 rfl (lv_at hl 1 rfl) ?_
          refine lv_aload_n hx hb d_L_law_133 rfl (lv_at hl 0 rfl) ?_
          refine lv_iload hx hb d_L_law_134 (lv_at hl 4 rfl) ?_
          refine lv_iconst (v := 1) hx hb d_L_law_136 (by decide) ?_
          refine lv_iadd hx hb d_L_law_137 ?_
          refine xr_sld hx hb hX hw h24 d_L_law_138 ?_
          refine lv_aload_n hx hb d_L_law_139 rfl (lv_at hl 0 rfl) ?_
          refine lv_iload hx hb d_L_law_140 (lv_at hl 4 rfl) ?_
          refine lv_iconst (v := 2) hx hb d_L_law_142 (by decide) ?_
          refine lv_iadd hx hb d_L_law_143 ?_
          refine xr_sld hx hb hX hw h25 d_L_law_144 ?_
          refine xr_cSW (n := 3) (hh := hh_L_constant) (As := [.ref x1, .int (xs (x4 + (1 : Int32)).toNatClampNeg), .int (xs (x4 + (2 : Int32)).toNatClampNeg)]) (rest := []) ⟨hx, hb, hml, hown, hts⟩ hw hM26 hle_u_264 (xgood w_509) List.mem_cons_self (hts _ (xm w_0)) (hts _ (xm w_507)) (hts _ (xm w_508)) ⟨by decide, by decide, by decide +kernel⟩ ⟨Nat.le_of_ble_eq_true rfl, Nat.le_of_ble_eq_true rfl⟩ ⟨Nat.le_refl _, Nat.le_refl _⟩ rfl hl.1 rfl (Nat.le_of_ble_eq_true rfl) d_L_law_145 (fun H locs hw => ?_)
          refine W.eq (g2 := F0 m 148 ls [.int r_265]) rfl ?_
          refine lv_istore (lv' := [(5, .int r_265), (0, .ref x0), (1, .ref x1), (2, .ref x2), (3, .ref x3), (4, .int x4)]) hx hb d_L_law_148 hl (by decide) rfl (fun ls hl => ?_)
          refine lv_aload_n hx hb d_L_law_150 rfl (lv_at hl 3 rfl) ?_
          refine lv_aload_n hx hb d_L_law_151 rfl (lv_at hl 1 rfl) ?_
          refine lv_iload hx hb d_L_law_152 (lv_at hl 5 rfl) ?_
          refine lv_iconst (v := 1) hx hb d_L_law_154 (by decide) ?_
          refine lv_iadd hx hb d_L_law_155 ?_
          refine xr_sld hx hb hX hw h27 d_L_law_156 ?_
          refine lv_aload_n hx hb d_L_law_157 rfl (lv_at hl 1 rfl) ?_
          refine lv_iload hx hb d_L_law_158 (lv_at hl 5 rfl) ?_
          refine lv_iconst (v := 2) hx hb d_L_law_160 (by decide) ?_
          refine lv_iadd hx hb d_L_law_161 ?_
          refine xr_sld hx hb hX hw h28 d_L_law_162 ?_
          refine xr_cV (As := [.int (xs (x4 + (1 : Int32)).toNatClampNeg), .int (xs (x4 + (2 : Int32)).toNatClampNeg)]) (rest := []) ⟨hx, hb, hml, hown, hts⟩ hw hM29 hle_u_268 (fun _ _ => ⟨callB_of 2 hts (xgood w_919) rfl rfl rfl (hts _ (xm w_8)) (hts _ (xm w_916)) ⟨by decide, by decide, by decide +kernel⟩ ⟨Nat.le_of_ble_eq_true rfl, Nat.le_of_ble_eq_true rfl⟩, (hts _ (xm w_917)), (hts _ (xm w_918))⟩) (qc := (R_M, F_M, 14)) rfl rfl h30 rfl hl.1 rfl (Nat.le_of_ble_eq_true rfl) d_L_law_163 (fun H locs hw => ?_)
          refine W.eq (g2 := F0 m 166 ls []) rfl ?_
          refine lv_aload_n hx hb d_L_law_166 rfl (lv_at hl 3 rfl) ?_
          refine xr_cV (As := []) (rest := []) ⟨hx, hb, hml, hown, hts⟩ hw hM31 hle_u_269 (fun _ _ => ⟨callB_of 0 hts (xgood w_915) rfl rfl rfl (hts _ (xm w_8)) (hts _ (xm w_912)) ⟨by decide, by decide, by decide +kernel⟩ ⟨Nat.le_of_ble_eq_true rfl, Nat.le_of_ble_eq_true rfl⟩, (hts _ (xm w_913)), (hts _ (xm w_914))⟩) (qc := (R_M, F_M, 14)) rfl rfl h32 rfl hl.1 rfl (Nat.le_of_ble_eq_true rfl) d_L_law_167 (fun H locs hw => ?_)
          refine W.eq (g2 := F0 m 170 ls [.int r_270]) rfl ?_
          refine lv_iload hx hb d_L_law_170 (lv_at hl 0 rfl) ?_
          refine lv_icmp_eq (tgt := 177) hx hb d_L_law_172 (by decide) (fun _ => ?_) (fun c9 => absurd hc33 c9)
          refine lv_goto (tgt := 1379) hx hb d_L_law_177 (by decide) ?_
          exact w9 p e s m args below meth c A H locs ls F hX hw (lv_sub hl [1, 2, 3, 4, 5] rfl)
        · have k := k.2 hc33
          obtain ⟨rv, v9, hK, hle_u_269, w9⟩ := hE175 u_269 k
          have hle_u_268 : x_le u_268 v9 := (hM31.1).tr hle_u_269
          have hle_u_264 : x_le u_264 v9 := (hM29.1).tr hle_u_268
          have hle_u : x_le u v9 := (hM26.1).tr hle_u_264
          refine ⟨rv, v9, hK, hle_u, ?_⟩
          intro p e s m args below meth c A H locs ls F hX hw hl
          obtain ⟨⟨hx, hb, hml, hown, hts⟩, hr, hlocks, hmn⟩ := id F
          refine lv_iload hx hb d_L_law_23 (lv_at hl 4 rfl) ?_
          refine lv_aload_n hx hb d_L_law_25 rfl (lv_at hl 0 rfl) ?_
          refine xr_slen hx hb hX hw d_L_law_26 ?_
          refine lv_iconst (v := 5) hx hb d_L_law_27 (by decide) ?_
          refine lv_isub hx hb d_L_law_28 ?_
          refine lv_icmp_gt (tgt := 1385) hx hb d_L_law_29 (by decide) (fun c9 => absurd c9 hc2) (fun _ => ?_)
          refine lv_aload_n hx hb d_L_law_32 rfl (lv_at hl 0 rfl) ?_
          refine lv_iload hx hb d_L_law_33 (lv_at hl 4 rfl) ?_
          refine xr_sld hx hb hX hw h3 d_L_law_35 ?_
          refine lv_bipush (v := 31) hx hb d_L_law_36 (by decide) ?_
          refine lv_iand hx hb d_L_law_38 ?_
          refine lv_tableIn (off := 93) (tgt := 132) hx hb d_L_law_39 (by rw [hc4]; decide) (by rw [hc4]; decide) (by rw [hc4]; rfl) (by decide) ?_
          refine lv_aload_n hx hb d_L_law_132 rfl (lv_at hl 1 rfl) ?_
          refine lv_aload_n hx hb d_L_law_133 rfl (lv_at hl 0 rfl) ?_
          refine lv_iload hx hb d_L_law_134 (lv_at hl 4 rfl) ?_
          refine lv_iconst (v := 1) hx hb d_L_law_136 (by decide) ?_
          refine lv_iadd hx hb d_L_law_137 ?_
          refine xr_sld hx hb hX hw h24 d_L_law_138 ?_
          refine lv_aload_n hx hb d_L_law_139 rfl (lv_at hl 0 rfl) ?_
          refine lv_iload hx hb d_L_law_140 (lv_at hl 4 rfl) ?_
          refine lv_iconst (v := 2) hx hb d_L_law_142 (by decide) ?_
          refine lv_iadd hx hb d_L_law_143 ?_
          refine xr_sld hx hb hX hw h25 d_L_law_144 ?_
          refine xr_cSW (n := 3) (hh := hh_L_constant) (As := [.ref x1, .int (xs (x4 + (1 : Int32)).toNatClampNeg), .int (xs (x4 + (2 : Int32)).toNatClampNeg)]) (rest := []) ⟨hx, hb, hml, hown, hts⟩ hw hM26 hle_u_264 (xgood w_509) List.mem_cons_self (hts _ (xm w_0)) (hts _ (xm w_507)) (hts _ (xm w_508)) ⟨by decide, by decide, by decide +kernel⟩ ⟨Nat.le_of_ble_eq_true rfl, Nat.le_of_ble_eq_true rfl⟩ ⟨Nat.le_refl _, Nat.le_refl _⟩ rfl hl.1 rfl (Nat.le_of_ble_eq_true rfl) d_L_law_145 (fun H locs hw => ?_)
          refine W.eq (g2 := F0 m 148 ls [.int r_265]) rfl ?_
          refine lv_istore (lv' := [(5, .int r_265), (0, .ref x0), (1, .ref x1), (2, .ref x2), (3, .ref x3), (4, .int x4)]) hx hb d_L_law_148 hl (by decide) rfl (fun ls hl => ?_)
          refine lv_aload_n hx hb d_L_law_150 rfl (lv_at hl 3 rfl) ?_
          refine lv_aload_n hx hb d_L_law_151 rfl (lv_at hl 1 rfl) ?_
          refine lv_iload hx hb d_L_law_152 (lv_at hl 5 rfl) ?_
          refine lv_iconst (v := 1) hx hb d_L_law_154 (by decide) ?_
          refine lv_iadd hx hb d_L_law_155 ?_
          refine xr_sld hx hb hX hw h27 d_L_law_156 ?_
          refine lv_aload_n hx hb d_L_law_157 rfl (lv_at hl 1 rfl) ?_
          refine lv_iload hx hb d_L_law_158 (lv_at hl 5 rfl) ?_
          refine lv_iconst (v := 2) hx hb d_L_law_160 (by decide) ?_
          refine lv_iadd hx hb d_L_law_161 ?_
          refine xr_sld hx hb hX hw h28 d_L_law_162 ?_
          refine xr_cV (As := [.int (xs (x4 + (1 : Int32)).toNatClampNeg), .int (xs (x4 + (2 : Int32)).toNatClampNeg)]) (rest := []) ⟨hx, hb, hml, hown, hts⟩ hw hM29 hle_u_268 (fun _ _ => ⟨callB_of 2 hts (xgood w_919) rfl rfl rfl (hts _ (xm w_8)) (hts _ (xm w_916)) ⟨by decide, by decide, by decide +kernel⟩ ⟨Nat.le_of_ble_eq_true rfl, Nat.le_of_ble_eq_true rfl⟩, (hts _ (xm w_917)), (hts _ (xm w_918))⟩) (qc := (R_M, F_M, 14)) rfl rfl h30 rfl hl.1 rfl (Nat.le_of_ble_eq_true rfl) d_L_law_163 (fun H locs hw => ?_)
          refine W.eq (g2 := F0 m 166 ls []) rfl ?_
          refine lv_aload_n hx hb d_L_law_166 rfl (lv_at hl 3 rfl) ?_
          refine xr_cV (As := []) (rest := []) ⟨hx, hb, hml, hown, hts⟩ hw hM31 hle_u_269 (fun _ _ => ⟨callB_of 0 hts (xgood w_915) rfl rfl rfl (hts _ (xm w_8)) (hts _ (xm w_912)) ⟨by decide, by decide, by decide +kernel⟩ ⟨Nat.le_of_ble_eq_true rfl, Nat.le_of_ble_eq_true rfl⟩, (hts _ (xm w_913)), (hts _ (xm w_914))⟩) (qc := (R_M, F_M, 14)) rfl rfl h32 rfl hl.1 rfl (Nat.le_of_ble_eq_true rfl) d_L_law_167 (fun H locs hw => ?_)
          refine W.eq (g2 := F0 m 170 ls [.int r_270]) rfl ?_
          refine lv_iload hx hb d_L_law_170 (lv_at hl 0 rfl) ?_
          refine lv_icmp_eq (tgt := 177) hx hb d_L_law_172 (by decide) (fun c9 => absurd c9 hc33) (fun _ => ?_)
          exact w9 p e s m args below meth c A H locs ls F hX hw (lv_sub hl [] rfl)
      by_cases hc5 : ((xs x4.toNatClampNeg) &&& (31 : Int32)) = 1
      · have k := k.2.1 hc5
        obtain ⟨h34, k⟩ := k
        obtain ⟨h35, k⟩ := k
        obtain ⟨_, u_273, ⟨r_274, rfl, k⟩, hM36⟩ := c_L_input l Z x1 (xs (x4 + (1 : Int32)).toNatClampNeg) (xs (x4 + (2 : Int32)).toNatClampNeg) u _ k
        obtain ⟨h37, k⟩ := k
        obtain ⟨h38, k⟩ := k
        obtain ⟨h40, k⟩ := k
        obtain ⟨_, u_277, ⟨rfl, k⟩, hM39⟩ := c_M_input l Z x2 (xs (x4 + (1 : Int32)).toNatClampNeg) (xs (x4 + (2 : Int32)).toNatClampNeg) u_273 _ k
        obtain ⟨h42, k⟩ := k
        obtain ⟨_, u_278, ⟨r_279, rfl, k⟩, hM41⟩ := c_M_thrown l Z x2 u_277 _ k
        by_cases hc43 : r_279 = r_274
        · have k := k.1 hc43
          obtain ⟨rv, v9, hK, hle_u_278, w9⟩ := t_L_law_J1379 l Z u0 sL xs x0 x1 x2 x3 x4 u_278 ih hE175 hE223 hE295 hE367 hE439 hE511 hE599 hE671 hE722 hE739 hE778 hE795 hE811 hE847 hE864 hE903 hE920 hE959 hE976 hE1027 hE1051 hE1090 hE1107 hE1146 hE1163 hE1214 hE1238 hE1301 hE1318 hE1357 hE1374 hE1385 k
          have hle_u_277 : x_le u_277 v9 := (hM41.1).tr hle_u_278
          have hle_u_273 : x_le u_273 v9 := (hM39.1).tr hle_u_277
          have hle_u : x_le u v9 := (hM36.1).tr hle_u_273
          refine ⟨rv, v9, hK, hle_u, ?_⟩
          intro p e s m args below meth c A H locs ls F hX hw hl
          obtain ⟨⟨hx, hb, hml, hown, hts⟩, hr, hlocks, hmn⟩ := id F
          refine lv_iload hx hb d_L_law_23 (lv_at hl 4 rfl) ?_
          refine lv_aload_n hx hb d_L_law_25 rfl (lv_at hl 0 rfl) ?_
          refine xr_slen hx hb hX hw d_L_law_26 ?_
          refine lv_iconst (v := 5) hx hb d_L_law_27 (by decide) ?_
          refine lv_isub hx hb d_L_law_28 ?_
          refine lv_icmp_gt (tgt := 1385) hx hb d_L_law_29 (by decide) (fun c9 => absurd c9 hc2) (fun _ => ?_)
          refine lv_aload_n hx hb d_L_law_32 rfl (lv_at hl 0 rfl) ?_
          refine lv_iload hx hb d_L_law_33 (lv_at hl 4 rfl) ?_
          refine xr_sld hx hb hX hw h3 d_L_law_35 ?_
          refine lv_bipush (v := 31) hx hb d_L_law_36 (by decide) ?_
          refine lv_iand hx hb d_L_law_38 ?_
          refine lv_tableIn (off := 141) (tgt := 180) hx hb d_L_law_39 (by rw [hc5]; decide) (by rw [hc5]; decide) (by rw [hc5]; rfl) (by decide) ?_
          refine lv_aload_n hx hb d_L_law_180 rfl (lv_at hl 1 rfl) ?_
          refine lv_aload_n hx hb d_L_law_181 rfl (lv_at hl 0 rfl) ?_
          refine lv_iload hx hb d_L_law_182 (lv_at hl 4 rfl) ?_
          refine lv_iconst (v := 1) hx hb d_L_law_184 (by decide) ?_
          refine lv_iadd hx hb d_L_law_185 ?_
          refine xr_sld hx hb hX hw h34 d_L_law_186 ?_
          refine lv_aload_n hx hb d_L_law_187 rfl (lv_at hl 0 rfl) ?_
          refine lv_iload hx hb d_L_law_188 (lv_at hl 4 rfl) ?_
          refine lv_iconst (v := 2) hx hb d_L_law_190 (by decide) ?_
          refine lv_iadd hx hb d_L_law_191 ?_
          refine xr_sld hx hb hX hw h35 d_L_law_192 ?_
          refine xr_cSW (n := 3) (hh := hh_L_input) (As := [.ref x1, .int (xs (x4 + (1 : Int32)).toNatClampNeg), .int (xs (x4 + (2 : Int32)).toNatClampNeg)]) (rest := []) ⟨hx, hb, hml, hown, hts⟩ hw hM36 hle_u_273 (xgood w_615) List.mem_cons_self (hts _ (xm w_0)) (hts _ (xm w_613)) (hts _ (xm w_614)) ⟨by decide, by decide, by decide +kernel⟩ ⟨Nat.le_of_ble_eq_true rfl, Nat.le_of_ble_eq_true rfl⟩ ⟨Nat.le_refl _, Nat.le_refl _⟩ rfl hl.1 rfl (Nat.le_of_ble_eq_true rfl) d_L_law_193 (fun H locs hw => ?_)
          refine W.eq (g2 := F0 m 196 ls [.int r_274]) rfl ?_
          refine lv_istore (lv' := [(5, .int r_274), (0, .ref x0), (1, .ref x1), (2, .ref x2), (3, .ref x3), (4, .int x4)]) hx hb d_L_law_196 hl (by decide) rfl (fun ls hl => ?_)
          refine lv_aload_n hx hb d_L_law_198 rfl (lv_at hl 3 rfl) ?_
          refine lv_aload_n hx hb d_L_law_199 rfl (lv_at hl 1 rfl) ?_
          refine lv_iload hx hb d_L_law_200 (lv_at hl 5 rfl) ?_
          refine lv_iconst (v := 1) hx hb d_L_law_202 (by decide) ?_
          refine lv_iadd hx hb d_L_law_203 ?_
          refine xr_sld hx hb hX hw h37 d_L_law_204 ?_
          refine lv_aload_n hx hb d_L_law_205 rfl (lv_at hl 1 rfl) ?_
          refine lv_iload hx hb d_L_law_206 (lv_at hl 5 rfl) ?_
          refine lv_iconst (v := 2) hx hb d_L_law_208 (by decide) ?_
          refine lv_iadd hx hb d_L_law_209 ?_
          refine xr_sld hx hb hX hw h38 d_L_law_210 ?_
          refine xr_cV (As := [.int (xs (x4 + (1 : Int32)).toNatClampNeg), .int (xs (x4 + (2 : Int32)).toNatClampNeg)]) (rest := []) ⟨hx, hb, hml, hown, hts⟩ hw hM39 hle_u_277 (fun _ _ => ⟨callB_of 2 hts (xgood w_933) rfl rfl rfl (hts _ (xm w_8)) (hts _ (xm w_930)) ⟨by decide, by decide, by decide +kernel⟩ ⟨Nat.le_of_ble_eq_true rfl, Nat.le_of_ble_eq_true rfl⟩, (hts _ (xm w_931)), (hts _ (xm w_932))⟩) (qc := (R_M, F_M, 14)) rfl rfl h40 rfl hl.1 rfl (Nat.le_of_ble_eq_true rfl) d_L_law_211 (fun H locs hw => ?_)
          refine W.eq (g2 := F0 m 214 ls []) rfl ?_
          refine lv_aload_n hx hb d_L_law_214 rfl (lv_at hl 3 rfl) ?_
          refine xr_cV (As := []) (rest := []) ⟨hx, hb, hml, hown, hts⟩ hw hM41 hle_u_278 (fun _ _ => ⟨callB_of 0 hts (xgood w_915) rfl rfl rfl (hts _ (xm w_8)) (hts _ (xm w_912)) ⟨by decide, by decide, by decide +kernel⟩ ⟨Nat.le_of_ble_eq_true rfl, Nat.le_of_ble_eq_true rfl⟩, (hts _ (xm w_913)), (hts _ (xm w_914))⟩) (qc := (R_M, F_M, 14)) rfl rfl h42 rfl hl.1 rfl (Nat.le_of_ble_eq_true rfl) d_L_law_215 (fun H locs hw => ?_)
          refine W.eq (g2 := F0 m 218 ls [.int r_279]) rfl ?_
          refine lv_iload hx hb d_L_law_218 (lv_at hl 0 rfl) ?_
          refine lv_icmp_eq (tgt := 225) hx hb d_L_law_220 (by decide) (fun _ => ?_) (fun c9 => absurd hc43 c9)
          refine lv_goto (tgt := 1379) hx hb d_L_law_225 (by decide) ?_
          exact w9 p e s m args below meth c A H locs ls F hX hw (lv_sub hl [1, 2, 3, 4, 5] rfl)
        · have k := k.2 hc43
          obtain ⟨rv, v9, hK, hle_u_278, w9⟩ := hE223 u_278 k
          have hle_u_277 : x_le u_277 v9 := (hM41.1).tr hle_u_278
          have hle_u_273 : x_le u_273 v9 := (hM39.1).tr hle_u_277
          have hle_u : x_le u v9 := (hM36.1).tr hle_u_273
          refine ⟨rv, v9, hK, hle_u, ?_⟩
          intro p e s m args below meth c A H locs ls F hX hw hl
          obtain ⟨⟨hx, hb, hml, hown, hts⟩, hr, hlocks, hmn⟩ := id F
          refine lv_iload hx hb d_L_law_23 (lv_at hl 4 rfl) ?_
          refine lv_aload_n hx hb d_L_law_25 rfl (lv_at hl 0 rfl) ?_
          refine xr_slen hx hb hX hw d_L_law_26 ?_
          refine lv_iconst (v := 5) hx hb d_L_law_27 (by decide) ?_
          refine lv_isub hx hb d_L_law_28 ?_
          refine lv_icmp_gt (tgt := 1385) hx hb d_L_law_29 (by decide) (fun c9 => absurd c9 hc2) (fun _ => ?_)
          refine lv_aload_n hx hb d_L_law_32 rfl (lv_at hl 0 rfl) ?_
          refine lv_iload hx hb d_L_law_33 (lv_at hl 4 rfl) ?_
          refine xr_sld hx hb hX hw h3 d_L_law_35 ?_
          refine lv_bipush (v := 31) hx hb d_L_law_36 (by decide) ?_
          refine lv_iand hx hb d_L_law_38 ?_
          refine lv_tableIn (off := 141) (tgt := 180) hx hb d_L_law_39 (by rw [hc5]; decide) (by rw [hc5]; decide) (by rw [hc5]; rfl) (by decide) ?_
          refine lv_aload_n hx hb d_L_law_180 rfl (lv_at hl 1 rfl) ?_
          refine lv_aload_n hx hb d_L_law_181 rfl (lv_at hl 0 rfl) ?_
          refine lv_iload hx hb d_L_law_182 (lv_at hl 4 rfl) ?_
          refine lv_iconst (v := 1) hx hb d_L_law_184 (by decide) ?_
          refine lv_iadd hx hb d_L_law_185 ?_
          refine xr_sld hx hb hX hw h34 d_L_law_186 ?_
          refine lv_aload_n hx hb d_L_law_187 rfl (lv_at hl 0 rfl) ?_
          refine lv_iload hx hb d_L_law_188 (lv_at hl 4 rfl) ?_
          refine lv_iconst (v := 2) hx hb d_L_law_190 (by decide) ?_
          refine lv_iadd hx hb d_L_law_191 ?_
          refine xr_sld hx hb hX hw h35 d_L_law_192 ?_
          refine xr_cSW (n := 3) (hh := hh_L_input) (As := [.ref x1, .int (xs (x4 + (1 : Int32)).toNatClampNeg), .int (xs (x4 + (2 : Int32)).toNatClampNeg)]) (rest := []) ⟨hx, hb, hml, hown, hts⟩ hw hM36 hle_u_273 (xgood w_615) List.mem_cons_self (hts _ (xm w_0)) (hts _ (xm w_613)) (hts _ (xm w_614)) ⟨by decide, by decide, by decide +kernel⟩ ⟨Nat.le_of_ble_eq_true rfl, Nat.le_of_ble_eq_true rfl⟩ ⟨Nat.le_refl _, Nat.le_refl _⟩ rfl hl.1 rfl (Nat.le_of_ble_eq_true rfl) d_L_law_193 (fun H locs hw => ?_)
          refine W.eq (g2 := F0 m 196 ls [.int r_274]) rfl ?_
          refine lv_istore (lv' := [(5, .int r_274), (0, .ref x0), (1, .ref x1), (2, .ref x2), (3, .ref x3), (4, .int x4)]) hx hb d_L_law_196 hl (by decide) rfl (fun ls hl => ?_)
          refine lv_aload_n hx hb d_L_law_198 rfl (lv_at hl 3 rfl) ?_
          refine lv_aload_n hx hb d_L_law_199 rfl (lv_at hl 1 rfl) ?_
          refine lv_iload hx hb d_L_law_200 (lv_at hl 5 rfl) ?_
          refine lv_iconst (v := 1) hx hb d_L_law_202 (by decide) ?_
          refine lv_iadd hx hb d_L_law_203 ?_
          refine xr_sld hx hb hX hw h37 d_L_law_204 ?_
          refine lv_aload_n hx hb d_L_law_205 rfl (lv_at hl 1 rfl) ?_
          refine lv_iload hx hb d_L_law_206 (lv_at hl 5 rfl) ?_
          refine lv_iconst (v := 2) hx hb d_L_law_208 (by decide) ?_
          refine lv_iadd hx hb d_L_law_209 ?_
          refine xr_sld hx hb hX hw h38 d_L_law_210 ?_
          refine xr_cV (As := [.int (xs (x4 + (1 : Int32)).toNatClampNeg), .int (xs (x4 + (2 : Int32)).toNatClampNeg)]) (rest := []) ⟨hx, hb, hml, hown, hts⟩ hw hM39 hle_u_277 (fun _ _ => ⟨callB_of 2 hts (xgood w_933) rfl rfl rfl (hts _ (xm w_8)) (hts _ (xm w_930)) ⟨by decide, by decide, by decide +kernel⟩ ⟨Nat.le_of_ble_eq_true rfl, Nat.le_of_ble_eq_true rfl⟩, (hts _ (xm w_931)), (hts _ (xm w_932))⟩) (qc := (R_M, F_M, 14)) rfl rfl h40 rfl hl.1 rfl (Nat.le_of_ble_eq_true rfl) d_L_law_211 (fun H locs hw => ?_)
          refine W.eq (g2 := F0 m 214 ls []) rfl ?_
          refine lv_aload_n hx hb d_L_law_214 rfl (lv_at hl 3 rfl) ?_
          refine xr_cV (As := []) (rest := []) ⟨hx, hb, hml, hown, hts⟩ hw hM41 hle_u_278 (fun _ _ => ⟨callB_of 0 hts (xgood w_915) rfl rfl rfl (hts _ (xm w_8)) (hts _ (xm w_912)) ⟨by decide, by decide, by decide +kernel⟩ ⟨Nat.le_of_ble_eq_true rfl, Nat.le_of_ble_eq_true rfl⟩, (hts _ (xm w_913)), (hts _ (xm w_914))⟩) (qc := (R_M, F_M, 14)) rfl rfl h42 rfl hl.1 rfl (Nat.le_of_ble_eq_true rfl) d_L_law_215 (fun H locs hw => ?_)
          refine W.eq (g2 := F0 m 218 ls [.int r_279]) rfl ?_
          refine lv_iload hx hb d_L_law_218 (lv_at hl 0 rfl) ?_
          refine lv_icmp_eq (tgt := 225) hx hb d_L_law_220 (by decide) (fun c9 => absurd c9 hc43) (fun _ => ?_)
          exact w9 p e s m args below meth c A H locs ls F hX hw (lv_sub hl [] rfl)
      by_cases hc6 : ((xs x4.toNatClampNeg) &&& (31 : Int32)) = 2
      · have k := k.2.2.1 hc6
        obtain ⟨h44, k⟩ := k
        obtain ⟨h45, k⟩ := k
        obtain ⟨h46, k⟩ := k
        obtain ⟨h47, k⟩ := k
        obtain ⟨_, u_284, ⟨r_285, rfl, k⟩, hM48⟩ := c_L_make l Z x1 (xs (x4 + (1 : Int32)).toNatClampNeg) (xs (x4 + (2 : Int32)).toNatClampNeg) (xs (x4 + (3 : Int32)).toNatClampNeg) (xs (x4 + (4 : Int32)).toNatClampNeg) u _ k
        obtain ⟨h49, k⟩ := k
        obtain ⟨h50, k⟩ := k
        obtain ⟨h51, k⟩ := k
        obtain ⟨h52, k⟩ := k
        obtain ⟨h54, k⟩ := k
        obtain ⟨_, u_290, ⟨rfl, k⟩, hM53⟩ := c_M_make l Z x2 (xs (x4 + (1 : Int32)).toNatClampNeg) (xs (x4 + (2 : Int32)).toNatClampNeg) (xs (x4 + (3 : Int32)).toNatClampNeg) (xs (x4 + (4 : Int32)).toNatClampNeg) u_284 _ k
        obtain ⟨h56, k⟩ := k
        obtain ⟨_, u_291, ⟨r_292, rfl, k⟩, hM55⟩ := c_M_thrown l Z x2 u_290 _ k
        by_cases hc57 : r_292 = r_285
        · have k := k.1 hc57
          obtain ⟨rv, v9, hK, hle_u_291, w9⟩ := t_L_law_J1379 l Z u0 sL xs x0 x1 x2 x3 x4 u_291 ih hE175 hE223 hE295 hE367 hE439 hE511 hE599 hE671 hE722 hE739 hE778 hE795 hE811 hE847 hE864 hE903 hE920 hE959 hE976 hE1027 hE1051 hE1090 hE1107 hE1146 hE1163 hE1214 hE1238 hE1301 hE1318 hE1357 hE1374 hE1385 k
          have hle_u_290 : x_le u_290 v9 := (hM55.1).tr hle_u_291
          have hle_u_284 : x_le u_284 v9 := (hM53.1).tr hle_u_290
          have hle_u : x_le u v9 := (hM48.1).tr hle_u_284
          refine ⟨rv, v9, hK, hle_u, ?_⟩
          intro p e s m args below meth c A H locs ls F hX hw hl
          obtain ⟨⟨hx, hb, hml, hown, hts⟩, hr, hlocks, hmn⟩ := id F
          refine lv_iload hx hb d_L_law_23 (lv_at hl 4 rfl) ?_
          refine lv_aload_n hx hb d_L_law_25 rfl (lv_at hl 0 rfl) ?_
          refine xr_slen hx hb hX hw d_L_law_26 ?_
          refine lv_iconst (v := 5) hx hb d_L_law_27 (by decide) ?_
          refine lv_isub hx hb d_L_law_28 ?_
          refine lv_icmp_gt (tgt := 1385) hx hb d_L_law_29 (by decide) (fun c9 => absurd c9 hc2) (fun _ => ?_)
          refine lv_aload_n hx hb d_L_law_32 rfl (lv_at hl 0 rfl) ?_
          refine lv_iload hx hb d_L_law_33 (lv_at hl 4 rfl) ?_
          refine xr_sld hx hb hX hw h3 d_L_law_35 ?_
          refine lv_bipush (v := 31) hx hb d_L_law_36 (by decide) ?_
          refine lv_iand hx hb d_L_law_38 ?_
          refine lv_tableIn (off := 189) (tgt := 228) hx hb d_L_law_39 (by rw [hc6]; decide) (by rw [hc6]; decide) (by rw [hc6]; rfl) (by decide) ?_
          refine lv_aload_n hx hb d_L_law_228 rfl (lv_at hl 1 rfl) ?_
          refine lv_aload_n hx hb d_L_law_229 rfl (lv_at hl 0 rfl) ?_
          refine lv_iload hx hb d_L_law_230 (lv_at hl 4 rfl) ?_
          refine lv_iconst (v := 1) hx hb d_L_law_232 (by decide) ?_
          refine lv_iadd hx hb d_L_law_233 ?_
          refine xr_sld hx hb hX hw h44 d_L_law_234 ?_
          refine lv_aload_n hx hb d_L_law_235 rfl (lv_at hl 0 rfl) ?_
          refine lv_iload hx hb d_L_law_236 (lv_at hl 4 rfl) ?_
          refine lv_iconst (v := 2) hx hb d_L_law_238 (by decide) ?_
          refine lv_iadd hx hb d_L_law_239 ?_
          refine xr_sld hx hb hX hw h45 d_L_law_240 ?_
          refine lv_aload_n hx hb d_L_law_241 rfl (lv_at hl 0 rfl) ?_
          refine lv_iload hx hb d_L_law_242 (lv_at hl 4 rfl) ?_
          refine lv_iconst (v := 3) hx hb d_L_law_244 (by decide) ?_
          refine lv_iadd hx hb d_L_law_245 ?_
          refine xr_sld hx hb hX hw h46 d_L_law_246 ?_
          refine lv_aload_n hx hb d_L_law_247 rfl (lv_at hl 0 rfl) ?_
          refine lv_iload hx hb d_L_law_248 (lv_at hl 4 rfl) ?_
          refine lv_iconst (v := 4) hx hb d_L_law_250 (by decide) ?_
          refine lv_iadd hx hb d_L_law_251 ?_
          refine xr_sld hx hb hX hw h47 d_L_law_252 ?_
          refine xr_cSW (n := 5) (hh := hh_L_make) (As := [.ref x1, .int (xs (x4 + (1 : Int32)).toNatClampNeg), .int (xs (x4 + (2 : Int32)).toNatClampNeg), .int (xs (x4 + (3 : Int32)).toNatClampNeg), .int (xs (x4 + (4 : Int32)).toNatClampNeg)]) (rest := []) ⟨hx, hb, hml, hown, hts⟩ hw hM48 hle_u_284 (xgood w_630) List.mem_cons_self (hts _ (xm w_0)) (hts _ (xm w_628)) (hts _ (xm w_629)) ⟨by decide, by decide, by decide +kernel⟩ ⟨Nat.le_of_ble_eq_true rfl, Nat.le_of_ble_eq_true rfl⟩ ⟨Nat.le_refl _, Nat.le_refl _⟩ rfl hl.1 rfl (Nat.le_of_ble_eq_true rfl) d_L_law_253 (fun H locs hw => ?_)
          refine W.eq (g2 := F0 m 256 ls [.int r_285]) rfl ?_
          refine lv_istore (lv' := [(5, .int r_285), (0, .ref x0), (1, .ref x1), (2, .ref x2), (3, .ref x3), (4, .int x4)]) hx hb d_L_law_256 hl (by decide) rfl (fun ls hl => ?_)
          refine lv_aload_n hx hb d_L_law_258 rfl (lv_at hl 3 rfl) ?_
          refine lv_aload_n hx hb d_L_law_259 rfl (lv_at hl 1 rfl) ?_
          refine lv_iload hx hb d_L_law_260 (lv_at hl 5 rfl) ?_
          refine lv_iconst (v := 1) hx hb d_L_law_262 (by decide) ?_
          refine lv_iadd hx hb d_L_law_263 ?_
          refine xr_sld hx hb hX hw h49 d_L_law_264 ?_
          refine lv_aload_n hx hb d_L_law_265 rfl (lv_at hl 1 rfl) ?_
          refine lv_iload hx hb d_L_law_266 (lv_at hl 5 rfl) ?_
          refine lv_iconst (v := 2) hx hb d_L_law_268 (by decide) ?_
          refine lv_iadd hx hb d_L_law_269 ?_
          refine xr_sld hx hb hX hw h50 d_L_law_270 ?_
          refine lv_aload_n hx hb d_L_law_271 rfl (lv_at hl 1 rfl) ?_
          refine lv_iload hx hb d_L_law_272 (lv_at hl 5 rfl) ?_
          refine lv_iconst (v := 3) hx hb d_L_law_274 (by decide) ?_
          refine lv_iadd hx hb d_L_law_275 ?_
          refine xr_sld hx hb hX hw h51 d_L_law_276 ?_
          refine lv_aload_n hx hb d_L_law_277 rfl (lv_at hl 1 rfl) ?_
          refine lv_iload hx hb d_L_law_278 (lv_at hl 5 rfl) ?_
          refine lv_iconst (v := 4) hx hb d_L_law_280 (by decide) ?_
          refine lv_iadd hx hb d_L_law_281 ?_
          refine xr_sld hx hb hX hw h52 d_L_law_282 ?_
          refine xr_cV (As := [.int (xs (x4 + (1 : Int32)).toNatClampNeg), .int (xs (x4 + (2 : Int32)).toNatClampNeg), .int (xs (x4 + (3 : Int32)).toNatClampNeg), .int (xs (x4 + (4 : Int32)).toNatClampNeg)]) (rest := []) ⟨hx, hb, hml, hown, hts⟩ hw hM53 hle_u_290 (fun _ _ => ⟨callB_of 4 hts (xgood w_940) rfl rfl rfl (hts _ (xm w_8)) (hts _ (xm w_937)) ⟨by decide, by decide, by decide +kernel⟩ ⟨Nat.le_of_ble_eq_true rfl, Nat.le_of_ble_eq_true rfl⟩, (hts _ (xm w_938)), (hts _ (xm w_939))⟩) (qc := (R_M, F_M, 14)) rfl rfl h54 rfl hl.1 rfl (Nat.le_of_ble_eq_true rfl) d_L_law_283 (fun H locs hw => ?_)
          refine W.eq (g2 := F0 m 286 ls []) rfl ?_
          refine lv_aload_n hx hb d_L_law_286 rfl (lv_at hl 3 rfl) ?_
          refine xr_cV (As := []) (rest := []) ⟨hx, hb, hml, hown, hts⟩ hw hM55 hle_u_291 (fun _ _ => ⟨callB_of 0 hts (xgood w_915) rfl rfl rfl (hts _ (xm w_8)) (hts _ (xm w_912)) ⟨by decide, by decide, by decide +kernel⟩ ⟨Nat.le_of_ble_eq_true rfl, Nat.le_of_ble_eq_true rfl⟩, (hts _ (xm w_913)), (hts _ (xm w_914))⟩) (qc := (R_M, F_M, 14)) rfl rfl h56 rfl hl.1 rfl (Nat.le_of_ble_eq_true rfl) d_L_law_287 (fun H locs hw => ?_)
          refine W.eq (g2 := F0 m 290 ls [.int r_292]) rfl ?_
          refine lv_iload hx hb d_L_law_290 (lv_at hl 0 rfl) ?_
          refine lv_icmp_eq (tgt := 297) hx hb d_L_law_292 (by decide) (fun _ => ?_) (fun c9 => absurd hc57 c9)
          refine lv_goto (tgt := 1379) hx hb d_L_law_297 (by decide) ?_
          exact w9 p e s m args below meth c A H locs ls F hX hw (lv_sub hl [1, 2, 3, 4, 5] rfl)
        · have k := k.2 hc57
          obtain ⟨rv, v9, hK, hle_u_291, w9⟩ := hE295 u_291 k
          have hle_u_290 : x_le u_290 v9 := (hM55.1).tr hle_u_291
          have hle_u_284 : x_le u_284 v9 := (hM53.1).tr hle_u_290
          have hle_u : x_le u v9 := (hM48.1).tr hle_u_284
          refine ⟨rv, v9, hK, hle_u, ?_⟩
          intro p e s m args below meth c A H locs ls F hX hw hl
          obtain ⟨⟨hx, hb, hml, hown, hts⟩, hr, hlocks, hmn⟩ := id F
          refine lv_iload hx hb d_L_law_23 (lv_at hl 4 rfl) ?_
          refine lv_aload_n hx hb d_L_law_25 rfl (lv_at hl 0 rfl) ?_
          refine xr_slen hx hb hX hw d_L_law_26 ?_
          refine lv_iconst (v := 5) hx hb d_L_law_27 (by decide) ?_
          refine lv_isub hx hb d_L_law_28 ?_
          refine lv_icmp_gt (tgt := 1385) hx hb d_L_law_29 (by decide) (fun c9 => absurd c9 hc2) (fun _ => ?_)
          refine lv_aload_n hx hb d_L_law_32 rfl (lv_at hl 0 rfl) ?_
          refine lv_iload hx hb d_L_law_33 (lv_at hl 4 rfl) ?_
          refine xr_sld hx hb hX hw h3 d_L_law_35 ?_
          refine lv_bipush (v := 31) hx hb d_L_law_36 (by decide) ?_
          refine lv_iand hx hb d_L_law_38 ?_
          refine lv_tableIn (off := 189) (tgt := 228) hx hb d_L_law_39 (by rw [hc6]; decide) (by rw [hc6]; decide) (by rw [hc6]; rfl) (by decide) ?_
          refine lv_aload_n hx hb d_L_law_228 rfl (lv_at hl 1 rfl) ?_
          refine lv_aload_n hx hb d_L_law_229 rfl (lv_at hl 0 rfl) ?_
          refine lv_iload hx hb d_L_law_230 (lv_at hl 4 rfl) ?_
          refine lv_iconst (v := 1) hx hb d_L_law_232 (by decide) ?_
          refine lv_iadd hx hb d_L_law_233 ?_
          refine xr_sld hx hb hX hw h44 d_L_law_234 ?_
          refine lv_aload_n hx hb d_L_law_235 rfl (lv_at hl 0 rfl) ?_
          refine lv_iload hx hb d_L_law_236 (lv_at hl 4 rfl) ?_
          refine lv_iconst (v := 2) hx hb d_L_law_238 (by decide) ?_
          refine lv_iadd hx hb d_L_law_239 ?_
          refine xr_sld hx hb hX hw h45 d_L_law_240 ?_
          refine lv_aload_n hx hb d_L_law_241 rfl (lv_at hl 0 rfl) ?_
          refine lv_iload hx hb d_L_law_242 (lv_at hl 4 rfl) ?_
          refine lv_iconst (v := 3) hx hb d_L_law_244 (by decide) ?_
          refine lv_iadd hx hb d_L_law_245 ?_
          refine xr_sld hx hb hX hw h46 d_L_law_246 ?_
          refine lv_aload_n hx hb d_L_law_247 rfl (lv_at hl 0 rfl) ?_
          refine lv_iload hx hb d_L_law_248 (lv_at hl 4 rfl) ?_
          refine lv_iconst (v := 4) hx hb d_L_law_250 (by decide) ?_
          refine lv_iadd hx hb d_L_law_251 ?_
          refine xr_sld hx hb hX hw h47 d_L_law_252 ?_
          refine xr_cSW (n := 5) (hh := hh_L_make) (As := [.ref x1, .int (xs (x4 + (1 : Int32)).toNatClampNeg), .int (xs (x4 + (2 : Int32)).toNatClampNeg), .int (xs (x4 + (3 : Int32)).toNatClampNeg), .int (xs (x4 + (4 : Int32)).toNatClampNeg)]) (rest := []) ⟨hx, hb, hml, hown, hts⟩ hw hM48 hle_u_284 (xgood w_630) List.mem_cons_self (hts _ (xm w_0)) (hts _ (xm w_628)) (hts _ (xm w_629)) ⟨by decide, by decide, by decide +kernel⟩ ⟨Nat.le_of_ble_eq_true rfl, Nat.le_of_ble_eq_true rfl⟩ ⟨Nat.le_refl _, Nat.le_refl _⟩ rfl hl.1 rfl (Nat.le_of_ble_eq_true rfl) d_L_law_253 (fun H locs hw => ?_)
          refine W.eq (g2 := F0 m 256 ls [.int r_285]) rfl ?_
          refine lv_istore (lv' := [(5, .int r_285), (0, .ref x0), (1, .ref x1), (2, .ref x2), (3, .ref x3), (4, .int x4)]) hx hb d_L_law_256 hl (by decide) rfl (fun ls hl => ?_)
          refine lv_aload_n hx hb d_L_law_258 rfl (lv_at hl 3 rfl) ?_
          refine lv_aload_n hx hb d_L_law_259 rfl (lv_at hl 1 rfl) ?_
          refine lv_iload hx hb d_L_law_260 (lv_at hl 5 rfl) ?_
          refine lv_iconst (v := 1) hx hb d_L_law_262 (by decide) ?_
          refine lv_iadd hx hb d_L_law_263 ?_
          refine xr_sld hx hb hX hw h49 d_L_law_264 ?_
          refine lv_aload_n hx hb d_L_law_265 rfl (lv_at hl 1 rfl) ?_
          refine lv_iload hx hb d_L_law_266 (lv_at hl 5 rfl) ?_
          refine lv_iconst (v := 2) hx hb d_L_law_268 (by decide) ?_
          refine lv_iadd hx hb d_L_law_269 ?_
          refine xr_sld hx hb hX hw h50 d_L_law_270 ?_
          refine lv_aload_n hx hb d_L_law_271 rfl (lv_at hl 1 rfl) ?_
          refine lv_iload hx hb d_L_law_272 (lv_at hl 5 rfl) ?_
          refine lv_iconst (v := 3) hx hb d_L_law_274 (by decide) ?_
          refine lv_iadd hx hb d_L_law_275 ?_
          refine xr_sld hx hb hX hw h51 d_L_law_276 ?_
          refine lv_aload_n hx hb d_L_law_277 rfl (lv_at hl 1 rfl) ?_
          refine lv_iload hx hb d_L_law_278 (lv_at hl 5 rfl) ?_
          refine lv_iconst (v := 4) hx hb d_L_law_280 (by decide) ?_
          refine lv_iadd hx hb d_L_law_281 ?_
          refine xr_sld hx hb hX hw h52 d_L_law_282 ?_
          refine xr_cV (As := [.int (xs (x4 + (1 : Int32)).toNatClampNeg), .int (xs (x4 + (2 : Int32)).toNatClampNeg), .int (xs (x4 + (3 : Int32)).toNatClampNeg), .int (xs (x4 + (4 : Int32)).toNatClampNeg)]) (rest := []) ⟨hx, hb, hml, hown, hts⟩ hw hM53 hle_u_290 (fun _ _ => ⟨callB_of 4 hts (xgood w_940) rfl rfl rfl (hts _ (xm w_8)) (hts _ (xm w_937)) ⟨by decide, by decide, by decide +kernel⟩ ⟨Nat.le_of_ble_eq_true rfl, Nat.le_of_ble_eq_true rfl⟩, (hts _ (xm w_938)), (hts _ (xm w_939))⟩) (qc := (R_M, F_M, 14)) rfl rfl h54 rfl hl.1 rfl (Nat.le_of_ble_eq_true rfl) d_L_law_283 (fun H locs hw => ?_)
          refine W.eq (g2 := F0 m 286 ls []) rfl ?_
          refine lv_aload_n hx hb d_L_law_286 rfl (lv_at hl 3 rfl) ?_
          refine xr_cV (As := []) (rest := []) ⟨hx, hb, hml, hown, hts⟩ hw hM55 hle_u_291 (fun _ _ => ⟨callB_of 0 hts (xgood w_915) rfl rfl rfl (hts _ (xm w_8)) (hts _ (xm w_912)) ⟨by decide, by decide, by decide +kernel⟩ ⟨Nat.le_of_ble_eq_true rfl, Nat.le_of_ble_eq_true rfl⟩, (hts _ (xm w_913)), (hts _ (xm w_914))⟩) (qc := (R_M, F_M, 14)) rfl rfl h56 rfl hl.1 rfl (Nat.le_of_ble_eq_true rfl) d_L_law_287 (fun H locs hw => ?_)
          refine W.eq (g2 := F0 m 290 ls [.int r_292]) rfl ?_
          refine lv_iload hx hb d_L_law_290 (lv_at hl 0 rfl) ?_
          refine lv_icmp_eq (tgt := 297) hx hb d_L_law_292 (by decide) (fun c9 => absurd c9 hc57) (fun _ => ?_)
          exact w9 p e s m args below meth c A H locs ls F hX hw (lv_sub hl [] rfl)
      by_cases hc7 : ((xs x4.toNatClampNeg) &&& (31 : Int32)) = 3
      · have k := k.2.2.2.1 hc7
        obtain ⟨h58, k⟩ := k
        obtain ⟨h59, k⟩ := k
        obtain ⟨h60, k⟩ := k
        obtain ⟨h61, k⟩ := k
        obtain ⟨_, u_297, ⟨r_298, rfl, k⟩, hM62⟩ := c_L_choose l Z x1 (xs (x4 + (1 : Int32)).toNatClampNeg) (xs (x4 + (2 : Int32)).toNatClampNeg) (xs (x4 + (3 : Int32)).toNatClampNeg) (xs (x4 + (4 : Int32)).toNatClampNeg) u _ k
        obtain ⟨h63, k⟩ := k
        obtain ⟨h64, k⟩ := k
        obtain ⟨h65, k⟩ := k
        obtain ⟨h66, k⟩ := k
        obtain ⟨h68, k⟩ := k
        obtain ⟨_, u_303, ⟨rfl, k⟩, hM67⟩ := c_M_choose l Z x2 (xs (x4 + (1 : Int32)).toNatClampNeg) (xs (x4 + (2 : Int32)).toNatClampNeg) (xs (x4 + (3 : Int32)).toNatClampNeg) (xs (x4 + (4 : Int32)).toNatClampNeg) u_297 _ k
        obtain ⟨h70, k⟩ := k
        obtain ⟨_, u_304, ⟨r_305, rfl, k⟩, hM69⟩ := c_M_thrown l Z x2 u_303 _ k
        by_cases hc71 : r_305 = r_298
        · have k := k.1 hc71
          obtain ⟨rv, v9, hK, hle_u_304, w9⟩ := t_L_law_J1379 l Z u0 sL xs x0 x1 x2 x3 x4 u_304 ih hE175 hE223 hE295 hE367 hE439 hE511 hE599 hE671 hE722 hE739 hE778 hE795 hE811 hE847 hE864 hE903 hE920 hE959 hE976 hE1027 hE1051 hE1090 hE1107 hE1146 hE1163 hE1214 hE1238 hE1301 hE1318 hE1357 hE1374 hE1385 k
          have hle_u_303 : x_le u_303 v9 := (hM69.1).tr hle_u_304
          have hle_u_297 : x_le u_297 v9 := (hM67.1).tr hle_u_303
          have hle_u : x_le u v9 := (hM62.1).tr hle_u_297
          refine ⟨rv, v9, hK, hle_u, ?_⟩
          intro p e s m args below meth c A H locs ls F hX hw hl
          obtain ⟨⟨hx, hb, hml, hown, hts⟩, hr, hlocks, hmn⟩ := id F
          refine lv_iload hx hb d_L_law_23 (lv_at hl 4 rfl) ?_
          refine lv_aload_n hx hb d_L_law_25 rfl (lv_at hl 0 rfl) ?_
          refine xr_slen hx hb hX hw d_L_law_26 ?_
          refine lv_iconst (v := 5) hx hb d_L_law_27 (by decide) ?_
          refine lv_isub hx hb d_L_law_28 ?_
          refine lv_icmp_gt (tgt := 1385) hx hb d_L_law_29 (by decide) (fun c9 => absurd c9 hc2) (fun _ => ?_)
          refine lv_aload_n hx hb d_L_law_32 rfl (lv_at hl 0 rfl) ?_
          refine lv_iload hx hb d_L_law_33 (lv_at hl 4 rfl) ?_
          refine xr_sld hx hb hX hw h3 d_L_law_35 ?_
          refine lv_bipush (v := 31) hx hb d_L_law_36 (by decide) ?_
          refine lv_iand hx hb d_L_law_38 ?_
          refine lv_tableIn (off := 261) (tgt := 300) hx hb d_L_law_39 (by rw [hc7]; decide) (by rw [hc7]; decide) (by rw [hc7]; rfl) (by decide) ?_
          refine lv_aload_n hx hb d_L_law_300 rfl (lv_at hl 1 rfl) ?_
          refine lv_aload_n hx hb d_L_law_301 rfl (lv_at hl 0 rfl) ?_
          refine lv_iload hx hb d_L_law_302 (lv_at hl 4 rfl) ?_
          refine lv_iconst (v := 1) hx hb d_L_law_304 (by decide) ?_
          refine lv_iadd hx hb d_L_law_305 ?_
          refine xr_sld hx hb hX hw h58 d_L_law_306 ?_
          refine lv_aload_n hx hb d_L_law_307 rfl (lv_at hl 0 rfl) ?_
          refine lv_iload hx hb d_L_law_308 (lv_at hl 4 rfl) ?_
          refine lv_iconst (v := 2) hx hb d_L_law_310 (by decide) ?_
          refine lv_iadd hx hb d_L_law_311 ?_
          refine xr_sld hx hb hX hw h59 d_L_law_312 ?_
          refine lv_aload_n hx hb d_L_law_313 rfl (lv_at hl 0 rfl) ?_
          refine lv_iload hx hb d_L_law_314 (lv_at hl 4 rfl) ?_
          refine lv_iconst (v := 3) hx hb d_L_law_316 (by decide) ?_
          refine lv_iadd hx hb d_L_law_317 ?_
          refine xr_sld hx hb hX hw h60 d_L_law_318 ?_
          refine lv_aload_n hx hb d_L_law_319 rfl (lv_at hl 0 rfl) ?_
          refine lv_iload hx hb d_L_law_320 (lv_at hl 4 rfl) ?_
          refine lv_iconst (v := 4) hx hb d_L_law_322 (by decide) ?_
          refine lv_iadd hx hb d_L_law_323 ?_
          refine xr_sld hx hb hX hw h61 d_L_law_324 ?_
          refine xr_cSW (n := 5) (hh := hh_L_choose) (As := [.ref x1, .int (xs (x4 + (1 : Int32)).toNatClampNeg), .int (xs (x4 + (2 : Int32)).toNatClampNeg), .int (xs (x4 + (3 : Int32)).toNatClampNeg), .int (xs (x4 + (4 : Int32)).toNatClampNeg)]) (rest := []) ⟨hx, hb, hml, hown, hts⟩ hw hM62 hle_u_297 (xgood w_652) List.mem_cons_self (hts _ (xm w_0)) (hts _ (xm w_650)) (hts _ (xm w_651)) ⟨by decide, by decide, by decide +kernel⟩ ⟨Nat.le_of_ble_eq_true rfl, Nat.le_of_ble_eq_true rfl⟩ ⟨Nat.le_refl _, Nat.le_refl _⟩ rfl hl.1 rfl (Nat.le_of_ble_eq_true rfl) d_L_law_325 (fun H locs hw => ?_)
          refine W.eq (g2 := F0 m 328 ls [.int r_298]) rfl ?_
          refine lv_istore (lv' := [(5, .int r_298), (0, .ref x0), (1, .ref x1), (2, .ref x2), (3, .ref x3), (4, .int x4)]) hx hb d_L_law_328 hl (by decide) rfl (fun ls hl => ?_)
          refine lv_aload_n hx hb d_L_law_330 rfl (lv_at hl 3 rfl) ?_
          refine lv_aload_n hx hb d_L_law_331 rfl (lv_at hl 1 rfl) ?_
          refine lv_iload hx hb d_L_law_332 (lv_at hl 5 rfl) ?_
          refine lv_iconst (v := 1) hx hb d_L_law_334 (by decide) ?_
          refine lv_iadd hx hb d_L_law_335 ?_
          refine xr_sld hx hb hX hw h63 d_L_law_336 ?_
          refine lv_aload_n hx hb d_L_law_337 rfl (lv_at hl 1 rfl) ?_
          refine lv_iload hx hb d_L_law_338 (lv_at hl 5 rfl) ?_
          refine lv_iconst (v := 2) hx hb d_L_law_340 (by decide) ?_
          refine lv_iadd hx hb d_L_law_341 ?_
          refine xr_sld hx hb hX hw h64 d_L_law_342 ?_
          refine lv_aload_n hx hb d_L_law_343 rfl (lv_at hl 1 rfl) ?_
          refine lv_iload hx hb d_L_law_344 (lv_at hl 5 rfl) ?_
          refine lv_iconst (v := 3) hx hb d_L_law_346 (by decide) ?_
          refine lv_iadd hx hb d_L_law_347 ?_
          refine xr_sld hx hb hX hw h65 d_L_law_348 ?_
          refine lv_aload_n hx hb d_L_law_349 rfl (lv_at hl 1 rfl) ?_
          refine lv_iload hx hb d_L_law_350 (lv_at hl 5 rfl) ?_
          refine lv_iconst (v := 4) hx hb d_L_law_352 (by decide) ?_
          refine lv_iadd hx hb d_L_law_353 ?_
          refine xr_sld hx hb hX hw h66 d_L_law_354 ?_
          refine xr_cV (As := [.int (xs (x4 + (1 : Int32)).toNatClampNeg), .int (xs (x4 + (2 : Int32)).toNatClampNeg), .int (xs (x4 + (3 : Int32)).toNatClampNeg), .int (xs (x4 + (4 : Int32)).toNatClampNeg)]) (rest := []) ⟨hx, hb, hml, hown, hts⟩ hw hM67 hle_u_303 (fun _ _ => ⟨callB_of 4 hts (xgood w_955) rfl rfl rfl (hts _ (xm w_8)) (hts _ (xm w_952)) ⟨by decide, by decide, by decide +kernel⟩ ⟨Nat.le_of_ble_eq_true rfl, Nat.le_of_ble_eq_true rfl⟩, (hts _ (xm w_953)), (hts _ (xm w_954))⟩) (qc := (R_M, F_M, 14)) rfl rfl h68 rfl hl.1 rfl (Nat.le_of_ble_eq_true rfl) d_L_law_355 (fun H locs hw => ?_)
          refine W.eq (g2 := F0 m 358 ls []) rfl ?_
          refine lv_aload_n hx hb d_L_law_358 rfl (lv_at hl 3 rfl) ?_
          refine xr_cV (As := []) (rest := []) ⟨hx, hb, hml, hown, hts⟩ hw hM69 hle_u_304 (fun _ _ => ⟨callB_of 0 hts (xgood w_915) rfl rfl rfl (hts _ (xm w_8)) (hts _ (xm w_912)) ⟨by decide, by decide, by decide +kernel⟩ ⟨Nat.le_of_ble_eq_true rfl, Nat.le_of_ble_eq_true rfl⟩, (hts _ (xm w_913)), (hts _ (xm w_914))⟩) (qc := (R_M, F_M, 14)) rfl rfl h70 rfl hl.1 rfl (Nat.le_of_ble_eq_true rfl) d_L_law_359 (fun H locs hw => ?_)
          refine W.eq (g2 := F0 m 362 ls [.int r_305]) rfl ?_
          refine lv_iload hx hb d_L_law_362 (lv_at hl 0 rfl) ?_
          refine lv_icmp_eq (tgt := 369) hx hb d_L_law_364 (by decide) (fun _ => ?_) (fun c9 => absurd hc71 c9)
          refine lv_goto (tgt := 1379) hx hb d_L_law_369 (by decide) ?_
          exact w9 p e s m args below meth c A H locs ls F hX hw (lv_sub hl [1, 2, 3, 4, 5] rfl)
        · have k := k.2 hc71
          obtain ⟨rv, v9, hK, hle_u_304, w9⟩ := hE367 u_304 k
          have hle_u_303 : x_le u_303 v9 := (hM69.1).tr hle_u_304
          have hle_u_297 : x_le u_297 v9 := (hM67.1).tr hle_u_303
          have hle_u : x_le u v9 := (hM62.1).tr hle_u_297
          refine ⟨rv, v9, hK, hle_u, ?_⟩
          intro p e s m args below meth c A H locs ls F hX hw hl
          obtain ⟨⟨hx, hb, hml, hown, hts⟩, hr, hlocks, hmn⟩ := id F
          refine lv_iload hx hb d_L_law_23 (lv_at hl 4 rfl) ?_
          refine lv_aload_n hx hb d_L_law_25 rfl (lv_at hl 0 rfl) ?_
          refine xr_slen hx hb hX hw d_L_law_26 ?_
          refine lv_iconst (v := 5) hx hb d_L_law_27 (by decide) ?_
          refine lv_isub hx hb d_L_law_28 ?_
          refine lv_icmp_gt (tgt := 1385) hx hb d_L_law_29 (by decide) (fun c9 => absurd c9 hc2) (fun _ => ?_)
          refine lv_aload_n hx hb d_L_law_32 rfl (lv_at hl 0 rfl) ?_
          refine lv_iload hx hb d_L_law_33 (lv_at hl 4 rfl) ?_
          refine xr_sld hx hb hX hw h3 d_L_law_35 ?_
          refine lv_bipush (v := 31) hx hb d_L_law_36 (by decide) ?_
          refine lv_iand hx hb d_L_law_38 ?_
          refine lv_tableIn (off := 261) (tgt := 300) hx hb d_L_law_39 (by rw [hc7]; decide) (by rw [hc7]; decide) (by rw [hc7]; rfl) (by decide) ?_
          refine lv_aload_n hx hb d_L_law_300 rfl (lv_at hl 1 rfl) ?_
          refine lv_aload_n hx hb d_L_law_301 rfl (lv_at hl 0 rfl) ?_
          refine lv_iload hx hb d_L_law_302 (lv_at hl 4 rfl) ?_
          refine lv_iconst (v := 1) hx hb d_L_law_304 (by decide) ?_
          refine lv_iadd hx hb d_L_law_305 ?_
          refine xr_sld hx hb hX hw h58 d_L_law_306 ?_
          refine lv_aload_n hx hb d_L_law_307 rfl (lv_at hl 0 rfl) ?_
          refine lv_iload hx hb d_L_law_308 (lv_at hl 4 rfl) ?_
          refine lv_iconst (v := 2) hx hb d_L_law_310 (by decide) ?_
          refine lv_iadd hx hb d_L_law_311 ?_
          refine xr_sld hx hb hX hw h59 d_L_law_312 ?_
          refine lv_aload_n hx hb d_L_law_313 rfl (lv_at hl 0 rfl) ?_
          refine lv_iload hx hb d_L_law_314 (lv_at hl 4 rfl) ?_
          refine lv_iconst (v := 3) hx hb d_L_law_316 (by decide) ?_
          refine lv_iadd hx hb d_L_law_317 ?_
          refine xr_sld hx hb hX hw h60 d_L_law_318 ?_
          refine lv_aload_n hx hb d_L_law_319 rfl (lv_at hl 0 rfl) ?_
          refine lv_iload hx hb d_L_law_320 (lv_at hl 4 rfl) ?_
          refine lv_iconst (v := 4) hx hb d_L_law_322 (by decide) ?_
          refine lv_iadd hx hb d_L_law_323 ?_
          refine xr_sld hx hb hX hw h61 d_L_law_324 ?_
          refine xr_cSW (n := 5) (hh := hh_L_choose) (As := [.ref x1, .int (xs (x4 + (1 : Int32)).toNatClampNeg), .int (xs (x4 + (2 : Int32)).toNatClampNeg), .int (xs (x4 + (3 : Int32)).toNatClampNeg), .int (xs (x4 + (4 : Int32)).toNatClampNeg)]) (rest := []) ⟨hx, hb, hml, hown, hts⟩ hw hM62 hle_u_297 (xgood w_652) List.mem_cons_self (hts _ (xm w_0)) (hts _ (xm w_650)) (hts _ (xm w_651)) ⟨by decide, by decide, by decide +kernel⟩ ⟨Nat.le_of_ble_eq_true rfl, Nat.le_of_ble_eq_true rfl⟩ ⟨Nat.le_refl _, Nat.le_refl _⟩ rfl hl.1 rfl (Nat.le_of_ble_eq_true rfl) d_L_law_325 (fun H locs hw => ?_)
          refine W.eq (g2 := F0 m 328 ls [.int r_298]) rfl ?_
          refine lv_istore (lv' := [(5, .int r_298), (0, .ref x0), (1, .ref x1), (2, .ref x2), (3, .ref x3), (4, .int x4)]) hx hb d_L_law_328 hl (by decide) rfl (fun ls hl => ?_)
          refine lv_aload_n hx hb d_L_law_330 rfl (lv_at hl 3 rfl) ?_
          refine lv_aload_n hx hb d_L_law_331 rfl (lv_at hl 1 rfl) ?_
          refine lv_iload hx hb d_L_law_332 (lv_at hl 5 rfl) ?_
          refine lv_iconst (v := 1) hx hb d_L_law_334 (by decide) ?_
          refine lv_iadd hx hb d_L_law_335 ?_
          refine xr_sld hx hb hX hw h63 d_L_law_336 ?_
          refine lv_aload_n hx hb d_L_law_337 rfl (lv_at hl 1 rfl) ?_
          refine lv_iload hx hb d_L_law_338 (lv_at hl 5 rfl) ?_
          refine lv_iconst (v := 2) hx hb d_L_law_340 (by decide) ?_
          refine lv_iadd hx hb d_L_law_341 ?_
          refine xr_sld hx hb hX hw h64 d_L_law_342 ?_
          refine lv_aload_n hx hb d_L_law_343 rfl (lv_at hl 1 rfl) ?_
          refine lv_iload hx hb d_L_law_344 (lv_at hl 5 rfl) ?_
          refine lv_iconst (v := 3) hx hb d_L_law_346 (by decide) ?_
          refine lv_iadd hx hb d_L_law_347 ?_
          refine xr_sld hx hb hX hw h65 d_L_law_348 ?_
          refine lv_aload_n hx hb d_L_law_349 rfl (lv_at hl 1 rfl) ?_
          refine lv_iload hx hb d_L_law_350 (lv_at hl 5 rfl) ?_
          refine lv_iconst (v := 4) hx hb d_L_law_352 (by decide) ?_
          refine lv_iadd hx hb d_L_law_353 ?_
          refine xr_sld hx hb hX hw h66 d_L_law_354 ?_
          refine xr_cV (As := [.int (xs (x4 + (1 : Int32)).toNatClampNeg), .int (xs (x4 + (2 : Int32)).toNatClampNeg), .int (xs (x4 + (3 : Int32)).toNatClampNeg), .int (xs (x4 + (4 : Int32)).toNatClampNeg)]) (rest := []) ⟨hx, hb, hml, hown, hts⟩ hw hM67 hle_u_303 (fun _ _ => ⟨callB_of 4 hts (xgood w_955) rfl rfl rfl (hts _ (xm w_8)) (hts _ (xm w_952)) ⟨by decide, by decide, by decide +kernel⟩ ⟨Nat.le_of_ble_eq_true rfl, Nat.le_of_ble_eq_true rfl⟩, (hts _ (xm w_953)), (hts _ (xm w_954))⟩) (qc := (R_M, F_M, 14)) rfl rfl h68 rfl hl.1 rfl (Nat.le_of_ble_eq_true rfl) d_L_law_355 (fun H locs hw => ?_)
          refine W.eq (g2 := F0 m 358 ls []) rfl ?_
          refine lv_aload_n hx hb d_L_law_358 rfl (lv_at hl 3 rfl) ?_
          refine xr_cV (As := []) (rest := []) ⟨hx, hb, hml, hown, hts⟩ hw hM69 hle_u_304 (fun _ _ => ⟨callB_of 0 hts (xgood w_915) rfl rfl rfl (hts _ (xm w_8)) (hts _ (xm w_912)) ⟨by decide, by decide, by decide +kernel⟩ ⟨Nat.le_of_ble_eq_true rfl, Nat.le_of_ble_eq_true rfl⟩, (hts _ (xm w_913)), (hts _ (xm w_914))⟩) (qc := (R_M, F_M, 14)) rfl rfl h70 rfl hl.1 rfl (Nat.le_of_ble_eq_true rfl) d_L_law_359 (fun H locs hw => ?_)
          refine W.eq (g2 := F0 m 362 ls [.int r_305]) rfl ?_
          refine lv_iload hx hb d_L_law_362 (lv_at hl 0 rfl) ?_
          refine lv_icmp_eq (tgt := 369) hx hb d_L_law_364 (by decide) (fun c9 => absurd c9 hc71) (fun _ => ?_)
          exact w9 p e s m args below meth c A H locs ls F hX hw (lv_sub hl [] rfl)
      by_cases hc8 : ((xs x4.toNatClampNeg) &&& (31 : Int32)) = 4
      · have k := k.2.2.2.2.1 hc8
        obtain ⟨h72, k⟩ := k
        obtain ⟨h73, k⟩ := k
        obtain ⟨h74, k⟩ := k
        obtain ⟨h75, k⟩ := k
        obtain ⟨_, u_310, ⟨r_311, rfl, k⟩, hM76⟩ := c_L_fix l Z x1 (xs (x4 + (1 : Int32)).toNatClampNeg) (xs (x4 + (2 : Int32)).toNatClampNeg) (xs (x4 + (3 : Int32)).toNatClampNeg) (xs (x4 + (4 : Int32)).toNatClampNeg) u _ k
        obtain ⟨h77, k⟩ := k
        obtain ⟨h78, k⟩ := k
        obtain ⟨h79, k⟩ := k
        obtain ⟨h80, k⟩ := k
        obtain ⟨h82, k⟩ := k
        obtain ⟨_, u_316, ⟨rfl, k⟩, hM81⟩ := c_M_fix l Z x2 (xs (x4 + (1 : Int32)).toNatClampNeg) (xs (x4 + (2 : Int32)).toNatClampNeg) (xs (x4 + (3 : Int32)).toNatClampNeg) (xs (x4 + (4 : Int32)).toNatClampNeg) u_310 _ k
        obtain ⟨h84, k⟩ := k
        obtain ⟨_, u_317, ⟨r_318, rfl, k⟩, hM83⟩ := c_M_thrown l Z x2 u_316 _ k
        by_cases hc85 : r_318 = r_311
        · have k := k.1 hc85
          obtain ⟨rv, v9, hK, hle_u_317, w9⟩ := t_L_law_J1379 l Z u0 sL xs x0 x1 x2 x3 x4 u_317 ih hE175 hE223 hE295 hE367 hE439 hE511 hE599 hE671 hE722 hE739 hE778 hE795 hE811 hE847 hE864 hE903 hE920 hE959 hE976 hE1027 hE1051 hE1090 hE1107 hE1146 hE1163 hE1214 hE1238 hE1301 hE1318 hE1357 hE1374 hE1385 k
          have hle_u_316 : x_le u_316 v9 := (hM83.1).tr hle_u_317
          have hle_u_310 : x_le u_310 v9 := (hM81.1).tr hle_u_316
          have hle_u : x_le u v9 := (hM76.1).tr hle_u_310
          refine ⟨rv, v9, hK, hle_u, ?_⟩
          intro p e s m args below meth c A H locs ls F hX hw hl
          obtain ⟨⟨hx, hb, hml, hown, hts⟩, hr, hlocks, hmn⟩ := id F
          refine lv_iload hx hb d_L_law_23 (lv_at hl 4 rfl) ?_
          refine lv_aload_n hx hb d_L_law_25 rfl (lv_at hl 0 rfl) ?_
          refine xr_slen hx hb hX hw d_L_law_26 ?_
          refine lv_iconst (v := 5) hx hb d_L_law_27 (by decide) ?_
          refine lv_isub hx hb d_L_law_28 ?_
          refine lv_icmp_gt (tgt := 1385) hx hb d_L_law_29 (by decide) (fun c9 => absurd c9 hc2) (fun _ => ?_)
          refine lv_aload_n hx hb d_L_law_32 rfl (lv_at hl 0 rfl) ?_
          refine lv_iload hx hb d_L_law_33 (lv_at hl 4 rfl) ?_
          refine xr_sld hx hb hX hw h3 d_L_law_35 ?_
          refine lv_bipush (v := 31) hx hb d_L_law_36 (by decide) ?_
          refine lv_iand hx hb d_L_law_38 ?_
          refine lv_tableIn (off := 333) (tgt := 372) hx hb d_L_law_39 (by rw [hc8]; decide) (by rw [hc8]; decide) (by rw [hc8]; rfl) (by decide) ?_
          refine lv_aload_n hx hb d_L_law_372 rfl (lv_at hl 1 rfl) ?_
          refine lv_aload_n hx hb d_L_law_373 rfl (lv_at hl 0 rfl) ?_
          refine lv_iload hx hb d_L_law_374 (lv_at hl 4 rfl) ?_
          refine lv_iconst (v := 1) hx hb d_L_law_376 (by decide) ?_
          refine lv_iadd hx hb d_L_law_377 ?_
          refine xr_sld hx hb hX hw h72 d_L_law_378 ?_
          refine lv_aload_n hx hb d_L_law_379 rfl (lv_at hl 0 rfl) ?_
          refine lv_iload hx hb d_L_law_380 (lv_at hl 4 rfl) ?_
          refine lv_iconst (v := 2) hx hb d_L_law_382 (by decide) ?_
          refine lv_iadd hx hb d_L_law_383 ?_
          refine xr_sld hx hb hX hw h73 d_L_law_384 ?_
          refine lv_aload_n hx hb d_L_law_385 rfl (lv_at hl 0 rfl) ?_
          refine lv_iload hx hb d_L_law_386 (lv_at hl 4 rfl) ?_
          refine lv_iconst (v := 3) hx hb d_L_law_388 (by decide) ?_
          refine lv_iadd hx hb d_L_law_389 ?_
          refine xr_sld hx hb hX hw h74 d_L_law_390 ?_
          refine lv_aload_n hx hb d_L_law_391 rfl (lv_at hl 0 rfl) ?_
          refine lv_iload hx hb d_L_law_392 (lv_at hl 4 rfl) ?_
          refine lv_iconst (v := 4) hx hb d_L_law_394 (by decide) ?_
          refine lv_iadd hx hb d_L_law_395 ?_
          refine xr_sld hx hb hX hw h75 d_L_law_396 ?_
          refine xr_cSW (n := 5) (hh := hh_L_fix) (As := [.ref x1, .int (xs (x4 + (1 : Int32)).toNatClampNeg), .int (xs (x4 + (2 : Int32)).toNatClampNeg), .int (xs (x4 + (3 : Int32)).toNatClampNeg), .int (xs (x4 + (4 : Int32)).toNatClampNeg)]) (rest := []) ⟨hx, hb, hml, hown, hts⟩ hw hM76 hle_u_310 (xgood w_663) List.mem_cons_self (hts _ (xm w_0)) (hts _ (xm w_661)) (hts _ (xm w_662)) ⟨by decide, by decide, by decide +kernel⟩ ⟨Nat.le_of_ble_eq_true rfl, Nat.le_of_ble_eq_true rfl⟩ ⟨Nat.le_refl _, Nat.le_refl _⟩ rfl hl.1 rfl (Nat.le_of_ble_eq_true rfl) d_L_law_397 (fun H locs hw => ?_)
          refine W.eq (g2 := F0 m 400 ls [.int r_311]) rfl ?_
          refine lv_istore (lv' := [(5, .int r_311), (0, .ref x0), (1, .ref x1), (2, .ref x2), (3, .ref x3), (4, .int x4)]) hx hb d_L_law_400 hl (by decide) rfl (fun ls hl => ?_)
          refine lv_aload_n hx hb d_L_law_402 rfl (lv_at hl 3 rfl) ?_
          refine lv_aload_n hx hb d_L_law_403 rfl (lv_at hl 1 rfl) ?_
          refine lv_iload hx hb d_L_law_404 (lv_at hl 5 rfl) ?_
          refine lv_iconst (v := 1) hx hb d_L_law_406 (by decide) ?_
          refine lv_iadd hx hb d_L_law_407 ?_
          refine xr_sld hx hb hX hw h77 d_L_law_408 ?_
          refine lv_aload_n hx hb d_L_law_409 rfl (lv_at hl 1 rfl) ?_
          refine lv_iload hx hb d_L_law_410 (lv_at hl 5 rfl) ?_
          refine lv_iconst (v := 2) hx hb d_L_law_412 (by decide) ?_
          refine lv_iadd hx hb d_L_law_413 ?_
          refine xr_sld hx hb hX hw h78 d_L_law_414 ?_
          refine lv_aload_n hx hb d_L_law_415 rfl (lv_at hl 1 rfl) ?_
          refine lv_iload hx hb d_L_law_416 (lv_at hl 5 rfl) ?_
          refine lv_iconst (v := 3) hx hb d_L_law_418 (by decide) ?_
          refine lv_iadd hx hb d_L_law_419 ?_
          refine xr_sld hx hb hX hw h79 d_L_law_420 ?_
          refine lv_aload_n hx hb d_L_law_421 rfl (lv_at hl 1 rfl) ?_
          refine lv_iload hx hb d_L_law_422 (lv_at hl 5 rfl) ?_
          refine lv_iconst (v := 4) hx hb d_L_law_424 (by decide) ?_
          refine lv_iadd hx hb d_L_law_425 ?_
          refine xr_sld hx hb hX hw h80 d_L_law_426 ?_
          refine xr_cV (As := [.int (xs (x4 + (1 : Int32)).toNatClampNeg), .int (xs (x4 + (2 : Int32)).toNatClampNeg), .int (xs (x4 + (3 : Int32)).toNatClampNeg), .int (xs (x4 + (4 : Int32)).toNatClampNeg)]) (rest := []) ⟨hx, hb, hml, hown, hts⟩ hw hM81 hle_u_316 (fun _ _ => ⟨callB_of 4 hts (xgood w_959) rfl rfl rfl (hts _ (xm w_8)) (hts _ (xm w_956)) ⟨by decide, by decide, by decide +kernel⟩ ⟨Nat.le_of_ble_eq_true rfl, Nat.le_of_ble_eq_true rfl⟩, (hts _ (xm w_957)), (hts _ (xm w_958))⟩) (qc := (R_M, F_M, 14)) rfl rfl h82 rfl hl.1 rfl (Nat.le_of_ble_eq_true rfl) d_L_law_427 (fun H locs hw => ?_)
          refine W.eq (g2 := F0 m 430 ls []) rfl ?_
          refine lv_aload_n hx hb d_L_law_430 rfl (lv_at hl 3 rfl) ?_
          refine xr_cV (As := []) (rest := []) ⟨hx, hb, hml, hown, hts⟩ hw hM83 hle_u_317 (fun _ _ => ⟨callB_of 0 hts (xgood w_915) rfl rfl rfl (hts _ (xm w_8)) (hts _ (xm w_912)) ⟨by decide, by decide, by decide +kernel⟩ ⟨Nat.le_of_ble_eq_true rfl, Nat.le_of_ble_eq_true rfl⟩, (hts _ (xm w_913)), (hts _ (xm w_914))⟩) (qc := (R_M, F_M, 14)) rfl rfl h84 rfl hl.1 rfl (Nat.le_of_ble_eq_true rfl) d_L_law_431 (fun H locs hw => ?_)
          refine W.eq (g2 := F0 m 434 ls [.int r_318]) rfl ?_
          refine lv_iload hx hb d_L_law_434 (lv_at hl 0 rfl) ?_
          refine lv_icmp_eq (tgt := 441) hx hb d_L_law_436 (by decide) (fun _ => ?_) (fun c9 => absurd hc85 c9)
          refine lv_goto (tgt := 1379) hx hb d_L_law_441 (by decide) ?_
          exact w9 p e s m args below meth c A H locs ls F hX hw (lv_sub hl [1, 2, 3, 4, 5] rfl)
        · have k := k.2 hc85
          obtain ⟨rv, v9, hK, hle_u_317, w9⟩ := hE439 u_317 k
          have hle_u_316 : x_le u_316 v9 := (hM83.1).tr hle_u_317
          have hle_u_310 : x_le u_310 v9 := (hM81.1).tr hle_u_316
          have hle_u : x_le u v9 := (hM76.1).tr hle_u_310
          refine ⟨rv, v9, hK, hle_u, ?_⟩
          intro p e s m args below meth c A H locs ls F hX hw hl
          obtain ⟨⟨hx, hb, hml, hown, hts⟩, hr, hlocks, hmn⟩ := id F
          refine lv_iload hx hb d_L_law_23 (lv_at hl 4 rfl) ?_
          refine lv_aload_n hx hb d_L_law_25 rfl (lv_at hl 0 rfl) ?_
          refine xr_slen hx hb hX hw d_L_law_26 ?_
          refine lv_iconst (v := 5) hx hb d_L_law_27 (by decide) ?_
          refine lv_isub hx hb d_L_law_28 ?_
          refine lv_icmp_gt (tgt := 1385) hx hb d_L_law_29 (by decide) (fun c9 => absurd c9 hc2) (fun _ => ?_)
          refine lv_aload_n hx hb d_L_law_32 rfl (lv_at hl 0 rfl) ?_
          refine lv_iload hx hb d_L_law_33 (lv_at hl 4 rfl) ?_
          refine xr_sld hx hb hX hw h3 d_L_law_35 ?_
          refine lv_bipush (v := 31) hx hb d_L_law_36 (by decide) ?_
          refine lv_iand hx hb d_L_law_38 ?_
          refine lv_tableIn (off := 333) (tgt := 372) hx hb d_L_law_39 (by rw [hc8]; decide) (by rw [hc8]; decide) (by rw [hc8]; rfl) (by decide) ?_
          refine lv_aload_n hx hb d_L_law_372 rfl (lv_at hl 1 rfl) ?_
          refine lv_aload_n hx hb d_L_law_373 rfl (lv_at hl 0 rfl) ?_
          refine lv_iload hx hb d_L_law_374 (lv_at hl 4 rfl) ?_
          refine lv_iconst (v := 1) hx hb d_L_law_376 (by decide) ?_
          refine lv_iadd hx hb d_L_law_377 ?_
          refine xr_sld hx hb hX hw h72 d_L_law_378 ?_
          refine lv_aload_n hx hb d_L_law_379 rfl (lv_at hl 0 rfl) ?_
          refine lv_iload hx hb d_L_law_380 (lv_at hl 4 rfl) ?_
          refine lv_iconst (v := 2) hx hb d_L_law_382 (by decide) ?_
          refine lv_iadd hx hb d_L_law_383 ?_
          refine xr_sld hx hb hX hw h73 d_L_law_384 ?_
          refine lv_aload_n hx hb d_L_law_385 rfl (lv_at hl 0 rfl) ?_
          refine lv_iload hx hb d_L_law_386 (lv_at hl 4 rfl) ?_
          refine lv_iconst (v := 3) hx hb d_L_law_388 (by decide) ?_
          refine lv_iadd hx hb d_L_law_389 ?_
          refine xr_sld hx hb hX hw h74 d_L_law_390 ?_
          refine lv_aload_n hx hb d_L_law_391 rfl (lv_at hl 0 rfl) ?_
          refine lv_iload hx hb d_L_law_392 (lv_at hl 4 rfl) ?_
          refine lv_iconst (v := 4) hx hb d_L_law_394 (by decide) ?_
          refine lv_iadd hx hb d_L_law_395 ?_
          refine xr_sld hx hb hX hw h75 d_L_law_396 ?_
          refine xr_cSW (n := 5) (hh := hh_L_fix) (As := [.ref x1, .int (xs (x4 + (1 : Int32)).toNatClampNeg), .int (xs (x4 + (2 : Int32)).toNatClampNeg), .int (xs (x4 + (3 : Int32)).toNatClampNeg), .int (xs (x4 + (4 : Int32)).toNatClampNeg)]) (rest := []) ⟨hx, hb, hml, hown, hts⟩ hw hM76 hle_u_310 (xgood w_663) List.mem_cons_self (hts _ (xm w_0)) (hts _ (xm w_661)) (hts _ (xm w_662)) ⟨by decide, by decide, by decide +kernel⟩ ⟨Nat.le_of_ble_eq_true rfl, Nat.le_of_ble_eq_true rfl⟩ ⟨Nat.le_refl _, Nat.le_refl _⟩ rfl hl.1 rfl (Nat.le_of_ble_eq_true rfl) d_L_law_397 (fun H locs hw => ?_)
          refine W.eq (g2 := F0 m 400 ls [.int r_311]) rfl ?_
          refine lv_istore (lv' := [(5, .int r_311), (0, .ref x0), (1, .ref x1), (2, .ref x2), (3, .ref x3), (4, .int x4)]) hx hb d_L_law_400 hl (by decide) rfl (fun ls hl => ?_)
          refine lv_aload_n hx hb d_L_law_402 rfl (lv_at hl 3 rfl) ?_
          refine lv_aload_n hx hb d_L_law_403 rfl (lv_at hl 1 rfl) ?_
          refine lv_iload hx hb d_L_law_404 (lv_at hl 5 rfl) ?_
          refine lv_iconst (v := 1) hx hb d_L_law_406 (by decide) ?_
          refine lv_iadd hx hb d_L_law_407 ?_
          refine xr_sld hx hb hX hw h77 d_L_law_408 ?_
          refine lv_aload_n hx hb d_L_law_409 rfl (lv_at hl 1 rfl) ?_
          refine lv_iload hx hb d_L_law_410 (lv_at hl 5 rfl) ?_
          refine lv_iconst (v := 2) hx hb d_L_law_412 (by decide) ?_
          refine lv_iadd hx hb d_L_law_413 ?_
          refine xr_sld hx hb hX hw h78 d_L_law_414 ?_
          refine lv_aload_n hx hb d_L_law_415 rfl (lv_at hl 1 rfl) ?_
          refine lv_iload hx hb d_L_law_416 (lv_at hl 5 rfl) ?_
          refine lv_iconst (v := 3) hx hb d_L_law_418 (by decide) ?_
          refine lv_iadd hx hb d_L_law_419 ?_
          refine xr_sld hx hb hX hw h79 d_L_law_420 ?_
          refine lv_aload_n hx hb d_L_law_421 rfl (lv_at hl 1 rfl) ?_
          refine lv_iload hx hb d_L_law_422 (lv_at hl 5 rfl) ?_
          refine lv_iconst (v := 4) hx hb d_L_law_424 (by decide) ?_
          refine lv_iadd hx hb d_L_law_425 ?_
          refine xr_sld hx hb hX hw h80 d_L_law_426 ?_
          refine xr_cV (As := [.int (xs (x4 + (1 : Int32)).toNatClampNeg), .int (xs (x4 + (2 : Int32)).toNatClampNeg), .int (xs (x4 + (3 : Int32)).toNatClampNeg), .int (xs (x4 + (4 : Int32)).toNatClampNeg)]) (rest := []) ⟨hx, hb, hml, hown, hts⟩ hw hM81 hle_u_316 (fun _ _ => ⟨callB_of 4 hts (xgood w_959) rfl rfl rfl (hts _ (xm w_8)) (hts _ (xm w_956)) ⟨by decide, by decide, by decide +kernel⟩ ⟨Nat.le_of_ble_eq_true rfl, Nat.le_of_ble_eq_true rfl⟩, (hts _ (xm w_957)), (hts _ (xm w_958))⟩) (qc := (R_M, F_M, 14)) rfl rfl h82 rfl hl.1 rfl (Nat.le_of_ble_eq_true rfl) d_L_law_427 (fun H locs hw => ?_)
          refine W.eq (g2 := F0 m 430 ls []) rfl ?_
          refine lv_aload_n hx hb d_L_law_430 rfl (lv_at hl 3 rfl) ?_
          refine xr_cV (As := []) (rest := []) ⟨hx, hb, hml, hown, hts⟩ hw hM83 hle_u_317 (fun _ _ => ⟨callB_of 0 hts (xgood w_915) rfl rfl rfl (hts _ (xm w_8)) (hts _ (xm w_912)) ⟨by decide, by decide, by decide +kernel⟩ ⟨Nat.le_of_ble_eq_true rfl, Nat.le_of_ble_eq_true rfl⟩, (hts _ (xm w_913)), (hts _ (xm w_914))⟩) (qc := (R_M, F_M, 14)) rfl rfl h84 rfl hl.1 rfl (Nat.le_of_ble_eq_true rfl) d_L_law_431 (fun H locs hw => ?_)
          refine W.eq (g2 := F0 m 434 ls [.int r_318]) rfl ?_
          refine lv_iload hx hb d_L_law_434 (lv_at hl 0 rfl) ?_
          refine lv_icmp_eq (tgt := 441) hx hb d_L_law_436 (by decide) (fun c9 => absurd c9 hc85) (fun _ => ?_)
          exact w9 p e s m args below meth c A H locs ls F hX hw (lv_sub hl [] rfl)
      by_cases hc9 : ((xs x4.toNatClampNeg) &&& (31 : Int32)) = 5
      · have k := k.2.2.2.2.2.1 hc9
        obtain ⟨h86, k⟩ := k
        obtain ⟨h87, k⟩ := k
        obtain ⟨h88, k⟩ := k
        obtain ⟨h89, k⟩ := k
        obtain ⟨_, u_323, ⟨r_324, rfl, k⟩, hM90⟩ := c_L_compose l Z x1 (xs (x4 + (1 : Int32)).toNatClampNeg) (xs (x4 + (2 : Int32)).toNatClampNeg) (xs (x4 + (3 : Int32)).toNatClampNeg) (xs (x4 + (4 : Int32)).toNatClampNeg) u _ k
        obtain ⟨h91, k⟩ := k
        obtain ⟨h92, k⟩ := k
        obtain ⟨h93, k⟩ := k
        obtain ⟨h94, k⟩ := k
        obtain ⟨h96, k⟩ := k
        obtain ⟨_, u_329, ⟨rfl, k⟩, hM95⟩ := c_M_compose l Z x2 (xs (x4 + (1 : Int32)).toNatClampNeg) (xs (x4 + (2 : Int32)).toNatClampNeg) (xs (x4 + (3 : Int32)).toNatClampNeg) (xs (x4 + (4 : Int32)).toNatClampNeg) u_323 _ k
        obtain ⟨h98, k⟩ := k
        obtain ⟨_, u_330, ⟨r_331, rfl, k⟩, hM97⟩ := c_M_thrown l Z x2 u_329 _ k
        by_cases hc99 : r_331 = r_324
        · have k := k.1 hc99
          obtain ⟨rv, v9, hK, hle_u_330, w9⟩ := t_L_law_J1379 l Z u0 sL xs x0 x1 x2 x3 x4 u_330 ih hE175 hE223 hE295 hE367 hE439 hE511 hE599 hE671 hE722 hE739 hE778 hE795 hE811 hE847 hE864 hE903 hE920 hE959 hE976 hE1027 hE1051 hE1090 hE1107 hE1146 hE1163 hE1214 hE1238 hE1301 hE1318 hE1357 hE1374 hE1385 k
          have hle_u_329 : x_le u_329 v9 := (hM97.1).tr hle_u_330
          have hle_u_323 : x_le u_323 v9 := (hM95.1).tr hle_u_329
          have hle_u : x_le u v9 := (hM90.1).tr hle_u_323
          refine ⟨rv, v9, hK, hle_u, ?_⟩
          intro p e s m args below meth c A H locs ls F hX hw hl
          obtain ⟨⟨hx, hb, hml, hown, hts⟩, hr, hlocks, hmn⟩ := id F
          refine lv_iload hx hb d_L_law_23 (lv_at hl 4 rfl) ?_
          refine lv_aload_n hx hb d_L_law_25 rfl (lv_at hl 0 rfl) ?_
          refine xr_slen hx hb hX hw d_L_law_26 ?_
          refine lv_iconst (v := 5) hx hb d_L_law_27 (by decide) ?_
          refine lv_isub hx hb d_L_law_28 ?_
          refine lv_icmp_gt (tgt := 1385) hx hb d_L_law_29 (by decide) (fun c9 => absurd c9 hc2) (fun _ => ?_)
          refine lv_aload_n hx hb d_L_law_32 rfl (lv_at hl 0 rfl) ?_
          refine lv_iload hx hb d_L_law_33 (lv_at hl 4 rfl) ?_
          refine xr_sld hx hb hX hw h3 d_L_law_35 ?_
          refine lv_bipush (v := 31) hx hb d_L_law_36 (by decide) ?_
          refine lv_iand hx hb d_L_law_38 ?_
          refine lv_tableIn (off := 405) (tgt := 444) hx hb d_L_law_39 (by rw [hc9]; decide) (by rw [hc9]; decide) (by rw [hc9]; rfl) (by decide) ?_
          refine lv_aload_n hx hb d_L_law_444 rfl (lv_at hl 1 rfl) ?_
          refine lv_aload_n hx hb d_L_law_445 rfl (lv_at hl 0 rfl) ?_
          refine lv_iload hx hb d_L_law_446 (lv_at hl 4 rfl) ?_
          refine lv_iconst (v := 1) hx hb d_L_law_448 (by decide) ?_
          refine lv_iadd hx hb d_L_law_449 ?_
          refine xr_sld hx hb hX hw h86 d_L_law_450 ?_
          refine lv_aload_n hx hb d_L_law_451 rfl (lv_at hl 0 rfl) ?_
          refine lv_iload hx hb d_L_law_452 (lv_at hl 4 rfl) ?_
          refine lv_iconst (v := 2) hx hb d_L_law_454 (by decide) ?_
          refine lv_iadd hx hb d_L_law_455 ?_
          refine xr_sld hx hb hX hw h87 d_L_law_456 ?_
          refine lv_aload_n hx hb d_L_law_457 rfl (lv_at hl 0 rfl) ?_
          refine lv_iload hx hb d_L_law_458 (lv_at hl 4 rfl) ?_
          refine lv_iconst (v := 3) hx hb d_L_law_460 (by decide) ?_
          refine lv_iadd hx hb d_L_law_461 ?_
          refine xr_sld hx hb hX hw h88 d_L_law_462 ?_
          refine lv_aload_n hx hb d_L_law_463 rfl (lv_at hl 0 rfl) ?_
          refine lv_iload hx hb d_L_law_464 (lv_at hl 4 rfl) ?_
          refine lv_iconst (v := 4) hx hb d_L_law_466 (by decide) ?_
          refine lv_iadd hx hb d_L_law_467 ?_
          refine xr_sld hx hb hX hw h89 d_L_law_468 ?_
          refine xr_cSW (n := 5) (hh := hh_L_compose) (As := [.ref x1, .int (xs (x4 + (1 : Int32)).toNatClampNeg), .int (xs (x4 + (2 : Int32)).toNatClampNeg), .int (xs (x4 + (3 : Int32)).toNatClampNeg), .int (xs (x4 + (4 : Int32)).toNatClampNeg)]) (rest := []) ⟨hx, hb, hml, hown, hts⟩ hw hM90 hle_u_323 (xgood w_682) List.mem_cons_self (hts _ (xm w_0)) (hts _ (xm w_680)) (hts _ (xm w_681)) ⟨by decide, by decide, by decide +kernel⟩ ⟨Nat.le_of_ble_eq_true rfl, Nat.le_of_ble_eq_true rfl⟩ ⟨Nat.le_refl _, Nat.le_refl _⟩ rfl hl.1 rfl (Nat.le_of_ble_eq_true rfl) d_L_law_469 (fun H locs hw => ?_)
          refine W.eq (g2 := F0 m 472 ls [.int r_324]) rfl ?_
          refine lv_istore (lv' := [(5, .int r_324), (0, .ref x0), (1, .ref x1), (2, .ref x2), (3, .ref x3), (4, .int x4)]) hx hb d_L_law_472 hl (by decide) rfl (fun ls hl => ?_)
          refine lv_aload_n hx hb d_L_law_474 rfl (lv_at hl 3 rfl) ?_
          refine lv_aload_n hx hb d_L_law_475 rfl (lv_at hl 1 rfl) ?_
          refine lv_iload hx hb d_L_law_476 (lv_at hl 5 rfl) ?_
          refine lv_iconst (v := 1) hx hb d_L_law_478 (by decide) ?_
          refine lv_iadd hx hb d_L_law_479 ?_
          refine xr_sld hx hb hX hw h91 d_L_law_480 ?_
          refine lv_aload_n hx hb d_L_law_481 rfl (lv_at hl 1 rfl) ?_
          refine lv_iload hx hb d_L_law_482 (lv_at hl 5 rfl) ?_
          refine lv_iconst (v := 2) hx hb d_L_law_484 (by decide) ?_
          refine lv_iadd hx hb d_L_law_485 ?_
          refine xr_sld hx hb hX hw h92 d_L_law_486 ?_
          refine lv_aload_n hx hb d_L_law_487 rfl (lv_at hl 1 rfl) ?_
          refine lv_iload hx hb d_L_law_488 (lv_at hl 5 rfl) ?_
          refine lv_iconst (v := 3) hx hb d_L_law_490 (by decide) ?_
          refine lv_iadd hx hb d_L_law_491 ?_
          refine xr_sld hx hb hX hw h93 d_L_law_492 ?_
          refine lv_aload_n hx hb d_L_law_493 rfl (lv_at hl 1 rfl) ?_
          refine lv_iload hx hb d_L_law_494 (lv_at hl 5 rfl) ?_
          refine lv_iconst (v := 4) hx hb d_L_law_496 (by decide) ?_
          refine lv_iadd hx hb d_L_law_497 ?_
          refine xr_sld hx hb hX hw h94 d_L_law_498 ?_
          refine xr_cV (As := [.int (xs (x4 + (1 : Int32)).toNatClampNeg), .int (xs (x4 + (2 : Int32)).toNatClampNeg), .int (xs (x4 + (3 : Int32)).toNatClampNeg), .int (xs (x4 + (4 : Int32)).toNatClampNeg)]) (rest := []) ⟨hx, hb, hml, hown, hts⟩ hw hM95 hle_u_329 (fun _ _ => ⟨callB_of 4 hts (xgood w_963) rfl rfl rfl (hts _ (xm w_8)) (hts _ (xm w_960)) ⟨by decide, by decide, by decide +kernel⟩ ⟨Nat.le_of_ble_eq_true rfl, Nat.le_of_ble_eq_true rfl⟩, (hts _ (xm w_961)), (hts _ (xm w_962))⟩) (qc := (R_M, F_M, 14)) rfl rfl h96 rfl hl.1 rfl (Nat.le_of_ble_eq_true rfl) d_L_law_499 (fun H locs hw => ?_)
          refine W.eq (g2 := F0 m 502 ls []) rfl ?_
          refine lv_aload_n hx hb d_L_law_502 rfl (lv_at hl 3 rfl) ?_
          refine xr_cV (As := []) (rest := []) ⟨hx, hb, hml, hown, hts⟩ hw hM97 hle_u_330 (fun _ _ => ⟨callB_of 0 hts (xgood w_915) rfl rfl rfl (hts _ (xm w_8)) (hts _ (xm w_912)) ⟨by decide, by decide, by decide +kernel⟩ ⟨Nat.le_of_ble_eq_true rfl, Nat.le_of_ble_eq_true rfl⟩, (hts _ (xm w_913)), (hts _ (xm w_914))⟩) (qc := (R_M, F_M, 14)) rfl rfl h98 rfl hl.1 rfl (Nat.le_of_ble_eq_true rfl) d_L_law_503 (fun H locs hw => ?_)
          refine W.eq (g2 := F0 m 506 ls [.int r_331]) rfl ?_
          refine lv_iload hx hb d_L_law_506 (lv_at hl 0 rfl) ?_
          refine lv_icmp_eq (tgt := 513) hx hb d_L_law_508 (by decide) (fun _ => ?_) (fun c9 => absurd hc99 c9)
          refine lv_goto (tgt := 1379) hx hb d_L_law_513 (by decide) ?_
          exact w9 p e s m args below meth c A H locs ls F hX hw (lv_sub hl [1, 2, 3, 4, 5] rfl)
        · have k := k.2 hc99
          obtain ⟨rv, v9, hK, hle_u_330, w9⟩ := hE511 u_330 k
          have hle_u_329 : x_le u_329 v9 := (hM97.1).tr hle_u_330
          have hle_u_323 : x_le u_323 v9 := (hM95.1).tr hle_u_329
          have hle_u : x_le u v9 := (hM90.1).tr hle_u_323
          refine ⟨rv, v9, hK, hle_u, ?_⟩
          intro p e s m args below meth c A H locs ls F hX hw hl
          obtain ⟨⟨hx, hb, hml, hown, hts⟩, hr, hlocks, hmn⟩ := id F
          refine lv_iload hx hb d_L_law_23 (lv_at hl 4 rfl) ?_
          refine lv_aload_n hx hb d_L_law_25 rfl (lv_at hl 0 rfl) ?_
          refine xr_slen hx hb hX hw d_L_law_26 ?_
          refine lv_iconst (v := 5) hx hb d_L_law_27 (by decide) ?_
          refine lv_isub hx hb d_L_law_28 ?_
          refine lv_icmp_gt (tgt := 1385) hx hb d_L_law_29 (by decide) (fun c9 => absurd c9 hc2) (fun _ => ?_)
          refine lv_aload_n hx hb d_L_law_32 rfl (lv_at hl 0 rfl) ?_
          refine lv_iload hx hb d_L_law_33 (lv_at hl 4 rfl) ?_
          refine xr_sld hx hb hX hw h3 d_L_law_35 ?_
          refine lv_bipush (v := 31) hx hb d_L_law_36 (by decide) ?_
          refine lv_iand hx hb d_L_law_38 ?_
          refine lv_tableIn (off := 405) (tgt := 444) hx hb d_L_law_39 (by rw [hc9]; decide) (by rw [hc9]; decide) (by rw [hc9]; rfl) (by decide) ?_
          refine lv_aload_n hx hb d_L_law_444 rfl (lv_at hl 1 rfl) ?_
          refine lv_aload_n hx hb d_L_law_445 rfl (lv_at hl 0 rfl) ?_
          refine lv_iload hx hb d_L_law_446 (lv_at hl 4 rfl) ?_
          refine lv_iconst (v := 1) hx hb d_L_law_448 (by decide) ?_
          refine lv_iadd hx hb d_L_law_449 ?_
          refine xr_sld hx hb hX hw h86 d_L_law_450 ?_
          refine lv_aload_n hx hb d_L_law_451 rfl (lv_at hl 0 rfl) ?_
          refine lv_iload hx hb d_L_law_452 (lv_at hl 4 rfl) ?_
          refine lv_iconst (v := 2) hx hb d_L_law_454 (by decide) ?_
          refine lv_iadd hx hb d_L_law_455 ?_
          refine xr_sld hx hb hX hw h87 d_L_law_456 ?_
          refine lv_aload_n hx hb d_L_law_457 rfl (lv_at hl 0 rfl) ?_
          refine lv_iload hx hb d_L_law_458 (lv_at hl 4 rfl) ?_
          refine lv_iconst (v := 3) hx hb d_L_law_460 (by decide) ?_
          refine lv_iadd hx hb d_L_law_461 ?_
          refine xr_sld hx hb hX hw h88 d_L_law_462 ?_
          refine lv_aload_n hx hb d_L_law_463 rfl (lv_at hl 0 rfl) ?_
          refine lv_iload hx hb d_L_law_464 (lv_at hl 4 rfl) ?_
          refine lv_iconst (v := 4) hx hb d_L_law_466 (by decide) ?_
          refine lv_iadd hx hb d_L_law_467 ?_
          refine xr_sld hx hb hX hw h89 d_L_law_468 ?_
          refine xr_cSW (n := 5) (hh := hh_L_compose) (As := [.ref x1, .int (xs (x4 + (1 : Int32)).toNatClampNeg), .int (xs (x4 + (2 : Int32)).toNatClampNeg), .int (xs (x4 + (3 : Int32)).toNatClampNeg), .int (xs (x4 + (4 : Int32)).toNatClampNeg)]) (rest := []) ⟨hx, hb, hml, hown, hts⟩ hw hM90 hle_u_323 (xgood w_682) List.mem_cons_self (hts _ (xm w_0)) (hts _ (xm w_680)) (hts _ (xm w_681)) ⟨by decide, by decide, by decide +kernel⟩ ⟨Nat.le_of_ble_eq_true rfl, Nat.le_of_ble_eq_true rfl⟩ ⟨Nat.le_refl _, Nat.le_refl _⟩ rfl hl.1 rfl (Nat.le_of_ble_eq_true rfl) d_L_law_469 (fun H locs hw => ?_)
          refine W.eq (g2 := F0 m 472 ls [.int r_324]) rfl ?_
          refine lv_istore (lv' := [(5, .int r_324), (0, .ref x0), (1, .ref x1), (2, .ref x2), (3, .ref x3), (4, .int x4)]) hx hb d_L_law_472 hl (by decide) rfl (fun ls hl => ?_)
          refine lv_aload_n hx hb d_L_law_474 rfl (lv_at hl 3 rfl) ?_
          refine lv_aload_n hx hb d_L_law_475 rfl (lv_at hl 1 rfl) ?_
          refine lv_iload hx hb d_L_law_476 (lv_at hl 5 rfl) ?_
          refine lv_iconst (v := 1) hx hb d_L_law_478 (by decide) ?_
          refine lv_iadd hx hb d_L_law_479 ?_
          refine xr_sld hx hb hX hw h91 d_L_law_480 ?_
          refine lv_aload_n hx hb d_L_law_481 rfl (lv_at hl 1 rfl) ?_
          refine lv_iload hx hb d_L_law_482 (lv_at hl 5 rfl) ?_
          refine lv_iconst (v := 2) hx hb d_L_law_484 (by decide) ?_
          refine lv_iadd hx hb d_L_law_485 ?_
          refine xr_sld hx hb hX hw h92 d_L_law_486 ?_
          refine lv_aload_n hx hb d_L_law_487 rfl (lv_at hl 1 rfl) ?_
          refine lv_iload hx hb d_L_law_488 (lv_at hl 5 rfl) ?_
          refine lv_iconst (v := 3) hx hb d_L_law_490 (by decide) ?_
          refine lv_iadd hx hb d_L_law_491 ?_
          refine xr_sld hx hb hX hw h93 d_L_law_492 ?_
          refine lv_aload_n hx hb d_L_law_493 rfl (lv_at hl 1 rfl) ?_
          refine lv_iload hx hb d_L_law_494 (lv_at hl 5 rfl) ?_
          refine lv_iconst (v := 4) hx hb d_L_law_496 (by decide) ?_
          refine lv_iadd hx hb d_L_law_497 ?_
          refine xr_sld hx hb hX hw h94 d_L_law_498 ?_
          refine xr_cV (As := [.int (xs (x4 + (1 : Int32)).toNatClampNeg), .int (xs (x4 + (2 : Int32)).toNatClampNeg), .int (xs (x4 + (3 : Int32)).toNatClampNeg), .int (xs (x4 + (4 : Int32)).toNatClampNeg)]) (rest := []) ⟨hx, hb, hml, hown, hts⟩ hw hM95 hle_u_329 (fun _ _ => ⟨callB_of 4 hts (xgood w_963) rfl rfl rfl (hts _ (xm w_8)) (hts _ (xm w_960)) ⟨by decide, by decide, by decide +kernel⟩ ⟨Nat.le_of_ble_eq_true rfl, Nat.le_of_ble_eq_true rfl⟩, (hts _ (xm w_961)), (hts _ (xm w_962))⟩) (qc := (R_M, F_M, 14)) rfl rfl h96 rfl hl.1 rfl (Nat.le_of_ble_eq_true rfl) d_L_law_499 (fun H locs hw => ?_)
          refine W.eq (g2 := F0 m 502 ls []) rfl ?_
          refine lv_aload_n hx hb d_L_law_502 rfl (lv_at hl 3 rfl) ?_
          refine xr_cV (As := []) (rest := []) ⟨hx, hb, hml, hown, hts⟩ hw hM97 hle_u_330 (fun _ _ => ⟨callB_of 0 hts (xgood w_915) rfl rfl rfl (hts _ (xm w_8)) (hts _ (xm w_912)) ⟨by decide, by decide, by decide +kernel⟩ ⟨Nat.le_of_ble_eq_true rfl, Nat.le_of_ble_eq_true rfl⟩, (hts _ (xm w_913)), (hts _ (xm w_914))⟩) (qc := (R_M, F_M, 14)) rfl rfl h98 rfl hl.1 rfl (Nat.le_of_ble_eq_true rfl) d_L_law_503 (fun H locs hw => ?_)
          refine W.eq (g2 := F0 m 506 ls [.int r_331]) rfl ?_
          refine lv_iload hx hb d_L_law_506 (lv_at hl 0 rfl) ?_
          refine lv_icmp_eq (tgt := 513) hx hb d_L_law_508 (by decide) (fun c9 => absurd c9 hc99) (fun _ => ?_)
          exact w9 p e s m args below meth c A H locs ls F hX hw (lv_sub hl [] rfl)
      by_cases hc10 : ((xs x4.toNatClampNeg) &&& (31 : Int32)) = 6
      · have k := k.2.2.2.2.2.2.1 hc10
        obtain ⟨h100, k⟩ := k
        obtain ⟨h101, k⟩ := k
        obtain ⟨h102, k⟩ := k
        obtain ⟨h103, k⟩ := k
        by_cases hc104 : (xs (x4 + (4 : Int32)).toNatClampNeg) = 0
        · have k := k.1 hc104
          obtain ⟨rv, v9, hK, hle_u, w9⟩ := t_L_law_J549 l Z u0 sL xs x0 x1 x2 x3 x4 x1 (xs (x4 + (1 : Int32)).toNatClampNeg) (xs (x4 + (2 : Int32)).toNatClampNeg) (xs (x4 + (3 : Int32)).toNatClampNeg) (0 : Int32) u ih hE175 hE223 hE295 hE367 hE439 hE511 hE599 hE671 hE722 hE739 hE778 hE795 hE811 hE847 hE864 hE903 hE920 hE959 hE976 hE1027 hE1051 hE1090 hE1107 hE1146 hE1163 hE1214 hE1238 hE1301 hE1318 hE1357 hE1374 hE1385 k
          refine ⟨rv, v9, hK, hle_u, ?_⟩
          intro p e s m args below meth c A H locs ls F hX hw hl
          obtain ⟨⟨hx, hb, hml, hown, hts⟩, hr, hlocks, hmn⟩ := id F
          refine lv_iload hx hb d_L_law_23 (lv_at hl 4 rfl) ?_
          refine lv_aload_n hx hb d_L_law_25 rfl (lv_at hl 0 rfl) ?_
          refine xr_slen hx hb hX hw d_L_law_26 ?_
          refine lv_iconst (v := 5) hx hb d_L_law_27 (by decide) ?_
          refine lv_isub hx hb d_L_law_28 ?_
          refine lv_icmp_gt (tgt := 1385) hx hb d_L_law_29 (by decide) (fun c9 => absurd c9 hc2) (fun _ => ?_)
          refine lv_aload_n hx hb d_L_law_32 rfl (lv_at hl 0 rfl) ?_
          refine lv_iload hx hb d_L_law_33 (lv_at hl 4 rfl) ?_
          refine xr_sld hx hb hX hw h3 d_L_law_35 ?_
          refine lv_bipush (v := 31) hx hb d_L_law_36 (by decide) ?_
          refine lv_iand hx hb d_L_law_38 ?_
          refine lv_tableIn (off := 477) (tgt := 516) hx hb d_L_law_39 (by rw [hc10]; decide) (by rw [hc10]; decide) (by rw [hc10]; rfl) (by decide) ?_
          refine lv_aload_n hx hb d_L_law_516 rfl (lv_at hl 1 rfl) ?_
          refine lv_aload_n hx hb d_L_law_517 rfl (lv_at hl 0 rfl) ?_
          refine lv_iload hx hb d_L_law_518 (lv_at hl 4 rfl) ?_
          refine lv_iconst (v := 1) hx hb d_L_law_520 (by decide) ?_
          refine lv_iadd hx hb d_L_law_521 ?_
          refine xr_sld hx hb hX hw h100 d_L_law_522 ?_
          refine lv_aload_n hx hb d_L_law_523 rfl (lv_at hl 0 rfl) ?_
          refine lv_iload hx hb d_L_law_524 (lv_at hl 4 rfl) ?_
          refine lv_iconst (v := 2) hx hb d_L_law_526 (by decide) ?_
          refine lv_iadd hx hb d_L_law_527 ?_
          refine xr_sld hx hb hX hw h101 d_L_law_528 ?_
          refine lv_aload_n hx hb d_L_law_529 rfl (lv_at hl 0 rfl) ?_
          refine lv_iload hx hb d_L_law_530 (lv_at hl 4 rfl) ?_
          refine lv_iconst (v := 3) hx hb d_L_law_532 (by decide) ?_
          refine lv_iadd hx hb d_L_law_533 ?_
          refine xr_sld hx hb hX hw h102 d_L_law_534 ?_
          refine lv_aload_n hx hb d_L_law_535 rfl (lv_at hl 0 rfl) ?_
          refine lv_iload hx hb d_L_law_536 (lv_at hl 4 rfl) ?_
          refine lv_iconst (v := 4) hx hb d_L_law_538 (by decide) ?_
          refine lv_iadd hx hb d_L_law_539 ?_
          refine xr_sld hx hb hX hw h103 d_L_law_540 ?_
          refine lv_if_eq (tgt := 548) hx hb d_L_law_541 (by decide) (fun _ => ?_) (fun c9 => absurd hc104 c9)
          refine lv_iconst (v := 0) hx hb d_L_law_548 (by decide) ?_
          exact w9 p e s m args below meth c A H locs ls F hX hw (lv_sub hl [0, 1, 2, 3, 4] rfl)
        · have k := k.2 hc104
          obtain ⟨rv, v9, hK, hle_u, w9⟩ := t_L_law_J549 l Z u0 sL xs x0 x1 x2 x3 x4 x1 (xs (x4 + (1 : Int32)).toNatClampNeg) (xs (x4 + (2 : Int32)).toNatClampNeg) (xs (x4 + (3 : Int32)).toNatClampNeg) (1 : Int32) u ih hE175 hE223 hE295 hE367 hE439 hE511 hE599 hE671 hE722 hE739 hE778 hE795 hE811 hE847 hE864 hE903 hE920 hE959 hE976 hE1027 hE1051 hE1090 hE1107 hE1146 hE1163 hE1214 hE1238 hE1301 hE1318 hE1357 hE1374 hE1385 k
          refine ⟨rv, v9, hK, hle_u, ?_⟩
          intro p e s m args below meth c A H locs ls F hX hw hl
          obtain ⟨⟨hx, hb, hml, hown, hts⟩, hr, hlocks, hmn⟩ := id F
          refine lv_iload hx hb d_L_law_23 (lv_at hl 4 rfl) ?_
          refine lv_aload_n hx hb d_L_law_25 rfl (lv_at hl 0 rfl) ?_
          refine xr_slen hx hb hX hw d_L_law_26 ?_
          refine lv_iconst (v := 5) hx hb d_L_law_27 (by decide) ?_
          refine lv_isub hx hb d_L_law_28 ?_
          refine lv_icmp_gt (tgt := 1385) hx hb d_L_law_29 (by decide) (fun c9 => absurd c9 hc2) (fun _ => ?_)
          refine lv_aload_n hx hb d_L_law_32 rfl (lv_at hl 0 rfl) ?_
          refine lv_iload hx hb d_L_law_33 (lv_at hl 4 rfl) ?_
          refine xr_sld hx hb hX hw h3 d_L_law_35 ?_
          refine lv_bipush (v := 31) hx hb d_L_law_36 (by decide) ?_
          refine lv_iand hx hb d_L_law_38 ?_
          refine lv_tableIn (off := 477) (tgt := 516) hx hb d_L_law_39 (by rw [hc10]; decide) (by rw [hc10]; decide) (by rw [hc10]; rfl) (by decide) ?_
          refine lv_aload_n hx hb d_L_law_516 rfl (lv_at hl 1 rfl) ?_
          refine lv_aload_n hx hb d_L_law_517 rfl (lv_at hl 0 rfl) ?_
          refine lv_iload hx hb d_L_law_518 (lv_at hl 4 rfl) ?_
          refine lv_iconst (v := 1) hx hb d_L_law_520 (by decide) ?_
          refine lv_iadd hx hb d_L_law_521 ?_
          refine xr_sld hx hb hX hw h100 d_L_law_522 ?_
          refine lv_aload_n hx hb d_L_law_523 rfl (lv_at hl 0 rfl) ?_
          refine lv_iload hx hb d_L_law_524 (lv_at hl 4 rfl) ?_
          refine lv_iconst (v := 2) hx hb d_L_law_526 (by decide) ?_
          refine lv_iadd hx hb d_L_law_527 ?_
          refine xr_sld hx hb hX hw h101 d_L_law_528 ?_
          refine lv_aload_n hx hb d_L_law_529 rfl (lv_at hl 0 rfl) ?_
          refine lv_iload hx hb d_L_law_530 (lv_at hl 4 rfl) ?_
          refine lv_iconst (v := 3) hx hb d_L_law_532 (by decide) ?_
          refine lv_iadd hx hb d_L_law_533 ?_
          refine xr_sld hx hb hX hw h102 d_L_law_534 ?_
          refine lv_aload_n hx hb d_L_law_535 rfl (lv_at hl 0 rfl) ?_
          refine lv_iload hx hb d_L_law_536 (lv_at hl 4 rfl) ?_
          refine lv_iconst (v := 4) hx hb d_L_law_538 (by decide) ?_
          refine lv_iadd hx hb d_L_law_539 ?_
          refine xr_sld hx hb hX hw h103 d_L_law_540 ?_
          refine lv_if_eq (tgt := 548) hx hb d_L_law_541 (by decide) (fun c9 => absurd c9 hc104) (fun _ => ?_)
          refine lv_iconst (v := 1) hx hb d_L_law_544 (by decide) ?_
          refine lv_goto (tgt := 549) hx hb d_L_law_545 (by decide) ?_
          exact w9 p e s m args below meth c A H locs ls F hX hw (lv_sub hl [0, 1, 2, 3, 4] rfl)
      by_cases hc11 : ((xs x4.toNatClampNeg) &&& (31 : Int32)) = 7
      · have k := k.2.2.2.2.2.2.2.1 hc11
        obtain ⟨h105, k⟩ := k
        obtain ⟨h106, k⟩ := k
        obtain ⟨h107, k⟩ := k
        obtain ⟨h108, k⟩ := k
        obtain ⟨_, u_349, ⟨r_350, rfl, k⟩, hM109⟩ := c_L_meet l Z x1 (xs (x4 + (1 : Int32)).toNatClampNeg) (xs (x4 + (2 : Int32)).toNatClampNeg) (xs (x4 + (3 : Int32)).toNatClampNeg) (xs (x4 + (4 : Int32)).toNatClampNeg) u _ k
        obtain ⟨h110, k⟩ := k
        obtain ⟨h111, k⟩ := k
        obtain ⟨h112, k⟩ := k
        obtain ⟨h113, k⟩ := k
        obtain ⟨h115, k⟩ := k
        obtain ⟨_, u_355, ⟨rfl, k⟩, hM114⟩ := c_M_meet l Z x2 (xs (x4 + (1 : Int32)).toNatClampNeg) (xs (x4 + (2 : Int32)).toNatClampNeg) (xs (x4 + (3 : Int32)).toNatClampNeg) (xs (x4 + (4 : Int32)).toNatClampNeg) u_349 _ k
        obtain ⟨h117, k⟩ := k
        obtain ⟨_, u_356, ⟨r_357, rfl, k⟩, hM116⟩ := c_M_thrown l Z x2 u_355 _ k
        by_cases hc118 : r_357 = r_350
        · have k := k.1 hc118
          obtain ⟨rv, v9, hK, hle_u_356, w9⟩ := t_L_law_J1379 l Z u0 sL xs x0 x1 x2 x3 x4 u_356 ih hE175 hE223 hE295 hE367 hE439 hE511 hE599 hE671 hE722 hE739 hE778 hE795 hE811 hE847 hE864 hE903 hE920 hE959 hE976 hE1027 hE1051 hE1090 hE1107 hE1146 hE1163 hE1214 hE1238 hE1301 hE1318 hE1357 hE1374 hE1385 k
          have hle_u_355 : x_le u_355 v9 := (hM116.1).tr hle_u_356
          have hle_u_349 : x_le u_349 v9 := (hM114.1).tr hle_u_355
          have hle_u : x_le u v9 := (hM109.1).tr hle_u_349
          refine ⟨rv, v9, hK, hle_u, ?_⟩
          intro p e s m args below meth c A H locs ls F hX hw hl
          obtain ⟨⟨hx, hb, hml, hown, hts⟩, hr, hlocks, hmn⟩ := id F
          refine lv_iload hx hb d_L_law_23 (lv_at hl 4 rfl) ?_
          refine lv_aload_n hx hb d_L_law_25 rfl (lv_at hl 0 rfl) ?_
          refine xr_slen hx hb hX hw d_L_law_26 ?_
          refine lv_iconst (v := 5) hx hb d_L_law_27 (by decide) ?_
          refine lv_isub hx hb d_L_law_28 ?_
          refine lv_icmp_gt (tgt := 1385) hx hb d_L_law_29 (by decide) (fun c9 => absurd c9 hc2) (fun _ => ?_)
          refine lv_aload_n hx hb d_L_law_32 rfl (lv_at hl 0 rfl) ?_
          refine lv_iload hx hb d_L_law_33 (lv_at hl 4 rfl) ?_
          refine xr_sld hx hb hX hw h3 d_L_law_35 ?_
          refine lv_bipush (v := 31) hx hb d_L_law_36 (by decide) ?_
          refine lv_iand hx hb d_L_law_38 ?_
          refine lv_tableIn (off := 565) (tgt := 604) hx hb d_L_law_39 (by rw [hc11]; decide) (by rw [hc11]; decide) (by rw [hc11]; rfl) (by decide) ?_
          refine lv_aload_n hx hb d_L_law_604 rfl (lv_at hl 1 rfl) ?_
          refine lv_aload_n hx hb d_L_law_605 rfl (lv_at hl 0 rfl) ?_
          refine lv_iload hx hb d_L_law_606 (lv_at hl 4 rfl) ?_
          refine lv_iconst (v := 1) hx hb d_L_law_608 (by decide) ?_
          refine lv_iadd hx hb d_L_law_609 ?_
          refine xr_sld hx hb hX hw h105 d_L_law_610 ?_
          refine lv_aload_n hx hb d_L_law_611 rfl (lv_at hl 0 rfl) ?_
          refine lv_iload hx hb d_L_law_612 (lv_at hl 4 rfl) ?_
          refine lv_iconst (v := 2) hx hb d_L_law_614 (by decide) ?_
          refine lv_iadd hx hb d_L_law_615 ?_
          refine xr_sld hx hb hX hw h106 d_L_law_616 ?_
          refine lv_aload_n hx hb d_L_law_617 rfl (lv_at hl 0 rfl) ?_
          refine lv_iload hx hb d_L_law_618 (lv_at hl 4 rfl) ?_
          refine lv_iconst (v := 3) hx hb d_L_law_620 (by decide) ?_
          refine lv_iadd hx hb d_L_law_621 ?_
          refine xr_sld hx hb hX hw h107 d_L_law_622 ?_
          refine lv_aload_n hx hb d_L_law_623 rfl (lv_at hl 0 rfl) ?_
          refine lv_iload hx hb d_L_law_624 (lv_at hl 4 rfl) ?_
          refine lv_iconst (v := 4) hx hb d_L_law_626 (by decide) ?_
          refine lv_iadd hx hb d_L_law_627 ?_
          refine xr_sld hx hb hX hw h108 d_L_law_628 ?_
          refine xr_cSW (n := 5) (hh := hh_L_meet) (As := [.ref x1, .int (xs (x4 + (1 : Int32)).toNatClampNeg), .int (xs (x4 + (2 : Int32)).toNatClampNeg), .int (xs (x4 + (3 : Int32)).toNatClampNeg), .int (xs (x4 + (4 : Int32)).toNatClampNeg)]) (rest := []) ⟨hx, hb, hml, hown, hts⟩ hw hM109 hle_u_349 (xgood w_720) List.mem_cons_self (hts _ (xm w_0)) (hts _ (xm w_718)) (hts _ (xm w_719)) ⟨by decide, by decide, by decide +kernel⟩ ⟨Nat.le_of_ble_eq_true rfl, Nat.le_of_ble_eq_true rfl⟩ ⟨Nat.le_refl _, Nat.le_refl _⟩ rfl hl.1 rfl (Nat.le_of_ble_eq_true rfl) d_L_law_629 (fun H locs hw => ?_)
          refine W.eq (g2 := F0 m 632 ls [.int r_350]) rfl ?_
          refine lv_istore (lv' := [(5, .int r_350), (0, .ref x0), (1, .ref x1), (2, .ref x2), (3, .ref x3), (4, .int x4)]) hx hb d_L_law_632 hl (by decide) rfl (fun ls hl => ?_)
          refine lv_aload_n hx hb d_L_law_634 rfl (lv_at hl 3 rfl) ?_
          refine lv_aload_n hx hb d_L_law_635 rfl (lv_at hl 1 rfl) ?_
          refine lv_iload hx hb d_L_law_636 (lv_at hl 5 rfl) ?_
          refine lv_iconst (v := 1) hx hb d_L_law_638 (by decide) ?_
          refine lv_iadd hx hb d_L_law_639 ?_
          refine xr_sld hx hb hX hw h110 d_L_law_640 ?_
          refine lv_aload_n hx hb d_L_law_641 rfl (lv_at hl 1 rfl) ?_
          refine lv_iload hx hb d_L_law_642 (lv_at hl 5 rfl) ?_
          refine lv_iconst (v := 2) hx hb d_L_law_644 (by decide) ?_
          refine lv_iadd hx hb d_L_law_645 ?_
          refine xr_sld hx hb hX hw h111 d_L_law_646 ?_
          refine lv_aload_n hx hb d_L_law_647 rfl (lv_at hl 1 rfl) ?_
          refine lv_iload hx hb d_L_law_648 (lv_at hl 5 rfl) ?_
          refine lv_iconst (v := 3) hx hb d_L_law_650 (by decide) ?_
          refine lv_iadd hx hb d_L_law_651 ?_
          refine xr_sld hx hb hX hw h112 d_L_law_652 ?_
          refine lv_aload_n hx hb d_L_law_653 rfl (lv_at hl 1 rfl) ?_
          refine lv_iload hx hb d_L_law_654 (lv_at hl 5 rfl) ?_
          refine lv_iconst (v := 4) hx hb d_L_law_656 (by decide) ?_
          refine lv_iadd hx hb d_L_law_657 ?_
          refine xr_sld hx hb hX hw h113 d_L_law_658 ?_
          refine xr_cV (As := [.int (xs (x4 + (1 : Int32)).toNatClampNeg), .int (xs (x4 + (2 : Int32)).toNatClampNeg), .int (xs (x4 + (3 : Int32)).toNatClampNeg), .int (xs (x4 + (4 : Int32)).toNatClampNeg)]) (rest := []) ⟨hx, hb, hml, hown, hts⟩ hw hM114 hle_u_355 (fun _ _ => ⟨callB_of 4 hts (xgood w_975) rfl rfl rfl (hts _ (xm w_8)) (hts _ (xm w_972)) ⟨by decide, by decide, by decide +kernel⟩ ⟨Nat.le_of_ble_eq_true rfl, Nat.le_of_ble_eq_true rfl⟩, (hts _ (xm w_973)), (hts _ (xm w_974))⟩) (qc := (R_M, F_M, 14)) rfl rfl h115 rfl hl.1 rfl (Nat.le_of_ble_eq_true rfl) d_L_law_659 (fun H locs hw => ?_)
          refine W.eq (g2 := F0 m 662 ls []) rfl ?_
          refine lv_aload_n hx hb d_L_law_662 rfl (lv_at hl 3 rfl) ?_
          refine xr_cV (As := []) (rest := []) ⟨hx, hb, hml, hown, hts⟩ hw hM116 hle_u_356 (fun _ _ => ⟨callB_of 0 hts (xgood w_915) rfl rfl rfl (hts _ (xm w_8)) (hts _ (xm w_912)) ⟨by decide, by decide, by decide +kernel⟩ ⟨Nat.le_of_ble_eq_true rfl, Nat.le_of_ble_eq_true rfl⟩, (hts _ (xm w_913)), (hts _ (xm w_914))⟩) (qc := (R_M, F_M, 14)) rfl rfl h117 rfl hl.1 rfl (Nat.le_of_ble_eq_true rfl) d_L_law_663 (fun H locs hw => ?_)
          refine W.eq (g2 := F0 m 666 ls [.int r_357]) rfl ?_
          refine lv_iload hx hb d_L_law_666 (lv_at hl 0 rfl) ?_
          refine lv_icmp_eq (tgt := 673) hx hb d_L_law_668 (by decide) (fun _ => ?_) (fun c9 => absurd hc118 c9)
          refine lv_goto (tgt := 1379) hx hb d_L_law_673 (by decide) ?_
          exact w9 p e s m args below meth c A H locs ls F hX hw (lv_sub hl [1, 2, 3, 4, 5] rfl)
        · have k := k.2 hc118
          obtain ⟨rv, v9, hK, hle_u_356, w9⟩ := hE671 u_356 k
          have hle_u_355 : x_le u_355 v9 := (hM116.1).tr hle_u_356
          have hle_u_349 : x_le u_349 v9 := (hM114.1).tr hle_u_355
          have hle_u : x_le u v9 := (hM109.1).tr hle_u_349
          refine ⟨rv, v9, hK, hle_u, ?_⟩
          intro p e s m args below meth c A H locs ls F hX hw hl
          obtain ⟨⟨hx, hb, hml, hown, hts⟩, hr, hlocks, hmn⟩ := id F
          refine lv_iload hx hb d_L_law_23 (lv_at hl 4 rfl) ?_
          refine lv_aload_n hx hb d_L_law_25 rfl (lv_at hl 0 rfl) ?_
          refine xr_slen hx hb hX hw d_L_law_26 ?_
          refine lv_iconst (v := 5) hx hb d_L_law_27 (by decide) ?_
          refine lv_isub hx hb d_L_law_28 ?_
          refine lv_icmp_gt (tgt := 1385) hx hb d_L_law_29 (by decide) (fun c9 => absurd c9 hc2) (fun _ => ?_)
          refine lv_aload_n hx hb d_L_law_32 rfl (lv_at hl 0 rfl) ?_
          refine lv_iload hx hb d_L_law_33 (lv_at hl 4 rfl) ?_
          refine xr_sld hx hb hX hw h3 d_L_law_35 ?_
          refine lv_bipush (v := 31) hx hb d_L_law_36 (by decide) ?_
          refine lv_iand hx hb d_L_law_38 ?_
          refine lv_tableIn (off := 565) (tgt := 604) hx hb d_L_law_39 (by rw [hc11]; decide) (by rw [hc11]; decide) (by rw [hc11]; rfl) (by decide) ?_
          refine lv_aload_n hx hb d_L_law_604 rfl (lv_at hl 1 rfl) ?_
          refine lv_aload_n hx hb d_L_law_605 rfl (lv_at hl 0 rfl) ?_
          refine lv_iload hx hb d_L_law_606 (lv_at hl 4 rfl) ?_
          refine lv_iconst (v := 1) hx hb d_L_law_608 (by decide) ?_
          refine lv_iadd hx hb d_L_law_609 ?_
          refine xr_sld hx hb hX hw h105 d_L_law_610 ?_
          refine lv_aload_n hx hb d_L_law_611 rfl (lv_at hl 0 rfl) ?_
          refine lv_iload hx hb d_L_law_612 (lv_at hl 4 rfl) ?_
          refine lv_iconst (v := 2) hx hb d_L_law_614 (by decide) ?_
          refine lv_iadd hx hb d_L_law_615 ?_
          refine xr_sld hx hb hX hw h106 d_L_law_616 ?_
          refine lv_aload_n hx hb d_L_law_617 rfl (lv_at hl 0 rfl) ?_
          refine lv_iload hx hb d_L_law_618 (lv_at hl 4 rfl) ?_
          refine lv_iconst (v := 3) hx hb d_L_law_620 (by decide) ?_
          refine lv_iadd hx hb d_L_law_621 ?_
          refine xr_sld hx hb hX hw h107 d_L_law_622 ?_
          refine lv_aload_n hx hb d_L_law_623 rfl (lv_at hl 0 rfl) ?_
          refine lv_iload hx hb d_L_law_624 (lv_at hl 4 rfl) ?_
          refine lv_iconst (v := 4) hx hb d_L_law_626 (by decide) ?_
          refine lv_iadd hx hb d_L_law_627 ?_
          refine xr_sld hx hb hX hw h108 d_L_law_628 ?_
          refine xr_cSW (n := 5) (hh := hh_L_meet) (As := [.ref x1, .int (xs (x4 + (1 : Int32)).toNatClampNeg), .int (xs (x4 + (2 : Int32)).toNatClampNeg), .int (xs (x4 + (3 : Int32)).toNatClampNeg), .int (xs (x4 + (4 : Int32)).toNatClampNeg)]) (rest := []) ⟨hx, hb, hml, hown, hts⟩ hw hM109 hle_u_349 (xgood w_720) List.mem_cons_self (hts _ (xm w_0)) (hts _ (xm w_718)) (hts _ (xm w_719)) ⟨by decide, by decide, by decide +kernel⟩ ⟨Nat.le_of_ble_eq_true rfl, Nat.le_of_ble_eq_true rfl⟩ ⟨Nat.le_refl _, Nat.le_refl _⟩ rfl hl.1 rfl (Nat.le_of_ble_eq_true rfl) d_L_law_629 (fun H locs hw => ?_)
          refine W.eq (g2 := F0 m 632 ls [.int r_350]) rfl ?_
          refine lv_istore (lv' := [(5, .int r_350), (0, .ref x0), (1, .ref x1), (2, .ref x2), (3, .ref x3), (4, .int x4)]) hx hb d_L_law_632 hl (by decide) rfl (fun ls hl => ?_)
          refine lv_aload_n hx hb d_L_law_634 rfl (lv_at hl 3 rfl) ?_
          refine lv_aload_n hx hb d_L_law_635 rfl (lv_at hl 1 rfl) ?_
          refine lv_iload hx hb d_L_law_636 (lv_at hl 5 rfl) ?_
          refine lv_iconst (v := 1) hx hb d_L_law_638 (by decide) ?_
          refine lv_iadd hx hb d_L_law_639 ?_
          refine xr_sld hx hb hX hw h110 d_L_law_640 ?_
          refine lv_aload_n hx hb d_L_law_641 rfl (lv_at hl 1 rfl) ?_
          refine lv_iload hx hb d_L_law_642 (lv_at hl 5 rfl) ?_
          refine lv_iconst (v := 2) hx hb d_L_law_644 (by decide) ?_
          refine lv_iadd hx hb d_L_law_645 ?_
          refine xr_sld hx hb hX hw h111 d_L_law_646 ?_
          refine lv_aload_n hx hb d_L_law_647 rfl (lv_at hl 1 rfl) ?_
          refine lv_iload hx hb d_L_law_648 (lv_at hl 5 rfl) ?_
          refine lv_iconst (v := 3) hx hb d_L_law_650 (by decide) ?_
          refine lv_iadd hx hb d_L_law_651 ?_
          refine xr_sld hx hb hX hw h112 d_L_law_652 ?_
          refine lv_aload_n hx hb d_L_law_653 rfl (lv_at hl 1 rfl) ?_
          refine lv_iload hx hb d_L_law_654 (lv_at hl 5 rfl) ?_
          refine lv_iconst (v := 4) hx hb d_L_law_656 (by decide) ?_
          refine lv_iadd hx hb d_L_law_657 ?_
          refine xr_sld hx hb hX hw h113 d_L_law_658 ?_
          refine xr_cV (As := [.int (xs (x4 + (1 : Int32)).toNatClampNeg), .int (xs (x4 + (2 : Int32)).toNatClampNeg), .int (xs (x4 + (3 : Int32)).toNatClampNeg), .int (xs (x4 + (4 : Int32)).toNatClampNeg)]) (rest := []) ⟨hx, hb, hml, hown, hts⟩ hw hM114 hle_u_355 (fun _ _ => ⟨callB_of 4 hts (xgood w_975) rfl rfl rfl (hts _ (xm w_8)) (hts _ (xm w_972)) ⟨by decide, by decide, by decide +kernel⟩ ⟨Nat.le_of_ble_eq_true rfl, Nat.le_of_ble_eq_true rfl⟩, (hts _ (xm w_973)), (hts _ (xm w_974))⟩) (qc := (R_M, F_M, 14)) rfl rfl h115 rfl hl.1 rfl (Nat.le_of_ble_eq_true rfl) d_L_law_659 (fun H locs hw => ?_)
          refine W.eq (g2 := F0 m 662 ls []) rfl ?_
          refine lv_aload_n hx hb d_L_law_662 rfl (lv_at hl 3 rfl) ?_
          refine xr_cV (As := []) (rest := []) ⟨hx, hb, hml, hown, hts⟩ hw hM116 hle_u_356 (fun _ _ => ⟨callB_of 0 hts (xgood w_915) rfl rfl rfl (hts _ (xm w_8)) (hts _ (xm w_912)) ⟨by decide, by decide, by decide +kernel⟩ ⟨Nat.le_of_ble_eq_true rfl, Nat.le_of_ble_eq_true rfl⟩, (hts _ (xm w_913)), (hts _ (xm w_914))⟩) (qc := (R_M, F_M, 14)) rfl rfl h117 rfl hl.1 rfl (Nat.le_of_ble_eq_true rfl) d_L_law_663 (fun H locs hw => ?_)
          refine W.eq (g2 := F0 m 666 ls [.int r_357]) rfl ?_
          refine lv_iload hx hb d_L_law_666 (lv_at hl 0 rfl) ?_
          refine lv_icmp_eq (tgt := 673) hx hb d_L_law_668 (by decide) (fun c9 => absurd c9 hc118) (fun _ => ?_)
          exact w9 p e s m args below meth c A H locs ls F hX hw (lv_sub hl [] rfl)
      by_cases hc12 : ((xs x4.toNatClampNeg) &&& (31 : Int32)) = 8
      · have k := k.2.2.2.2.2.2.2.2.1 hc12
        obtain ⟨h119, k⟩ := k
        obtain ⟨h120, k⟩ := k
        obtain ⟨_, u_360, ⟨r_361, rfl, k⟩, hM121⟩ := c_L_move l Z x1 (xs (x4 + (1 : Int32)).toNatClampNeg) (xs (x4 + (2 : Int32)).toNatClampNeg) x3 u _ k
        obtain ⟨h122, k⟩ := k
        obtain ⟨h123, k⟩ := k
        obtain ⟨h125, k⟩ := k
        obtain ⟨_, u_364, ⟨r_365, rfl, k⟩, hM124⟩ := c_M_move l Z x2 (xs (x4 + (1 : Int32)).toNatClampNeg) (xs (x4 + (2 : Int32)).toNatClampNeg) u_360 _ k
        obtain ⟨h127, k⟩ := k
        obtain ⟨_, u_366, ⟨r_367, rfl, k⟩, hM126⟩ := c_M_thrown l Z x2 u_364 _ k
        by_cases hc128 : r_367 = r_361
        · have k := k.1 hc128
          by_cases hc129 : r_361 = 0
          · have k := k.2 hc129
            obtain ⟨z_368, h130, k⟩ := k
            by_cases hc131 : (lg_cmp z_368 (r_365.toInt64)) = 0
            · have k := k.1 hc131
              obtain ⟨rv, v9, hK, hle_u_366, w9⟩ := t_L_law_J741 l Z u0 sL xs x0 x1 x2 x3 x4 u_366 ih hE175 hE223 hE295 hE367 hE439 hE511 hE599 hE671 hE722 hE739 hE778 hE795 hE811 hE847 hE864 hE903 hE920 hE959 hE976 hE1027 hE1051 hE1090 hE1107 hE1146 hE1163 hE1214 hE1238 hE1301 hE1318 hE1357 hE1374 hE1385 k
              have hle_u_364 : x_le u_364 v9 := (hM126.1).tr hle_u_366
              have hle_u_360 : x_le u_360 v9 := (hM124.1).tr hle_u_364
              have hle_u : x_le u v9 := (hM121.1).tr hle_u_360
              refine ⟨rv, v9, hK, hle_u, ?_⟩
              intro p e s m args below meth c A H locs ls F hX hw hl
              obtain ⟨⟨hx, hb, hml, hown, hts⟩, hr, hlocks, hmn⟩ := id F
              refine lv_iload hx hb d_L_law_23 (lv_at hl 4 rfl) ?_
              refine lv_aload_n hx hb d_L_law_25 rfl (lv_at hl 0 rfl) ?_
              refine xr_slen hx hb hX hw d_L_law_26 ?_
              refine lv_iconst (v := 5) hx hb d_L_law_27 (by decide) ?_
              refine lv_isub hx hb d_L_law_28 ?_
              refine lv_icmp_gt (tgt := 1385) hx hb d_L_law_29 (by decide) (fun c9 => absurd c9 hc2) (fun _ => ?_)
              refine lv_aload_n hx hb d_L_law_32 rfl (lv_at hl 0 rfl) ?_
              refine lv_iload hx hb d_L_law_33 (lv_at hl 4 rfl) ?_
              refine xr_sld hx hb hX hw h3 d_L_law_35 ?_
              refine lv_bipush (v := 31) hx hb d_L_law_36 (by decide) ?_
              refine lv_iand hx hb d_L_law_38 ?_
              refine lv_tableIn (off := 637) (tgt := 676) hx hb d_L_law_39 (by rw [hc12]; decide) (by rw [hc12]; decide) (by rw [hc12]; rfl) (by decide) ?_
              refine lv_aload_n hx hb d_L_law_676 rfl (lv_at hl 1 rfl) ?_
              refine lv_aload_n hx hb d_L_law_677 rfl (lv_at hl 0 rfl) ?_
              refine lv_iload hx hb d_L_law_678 (lv_at hl 4 rfl) ?_
              refine lv_iconst (v := 1) hx hb d_L_law_680 (by decide) ?_
              refine lv_iadd hx hb d_L_law_681 ?_
              refine xr_sld hx hb hX hw h119 d_L_law_682 ?_
              refine lv_aload_n hx hb d_L_law_683 rfl (lv_at hl 0 rfl) ?_
              refine lv_iload hx hb d_L_law_684 (lv_at hl 4 rfl) ?_
              refine lv_iconst (v := 2) hx hb d_L_law_686 (by decide) ?_
              refine lv_iadd hx hb d_L_law_687 ?_
              refine xr_sld hx hb hX hw h120 d_L_law_688 ?_
              refine lv_aload_n hx hb d_L_law_689 rfl (lv_at hl 3 rfl) ?_
              refine xr_cSW (n := 4) (hh := hh_L_move) (As := [.ref x1, .int (xs (x4 + (1 : Int32)).toNatClampNeg), .int (xs (x4 + (2 : Int32)).toNatClampNeg), .ref x3]) (rest := []) ⟨hx, hb, hml, hown, hts⟩ hw hM121 hle_u_360 (xgood w_727) List.mem_cons_self (hts _ (xm w_0)) (hts _ (xm w_725)) (hts _ (xm w_726)) ⟨by decide, by decide, by decide +kernel⟩ ⟨Nat.le_of_ble_eq_true rfl, Nat.le_of_ble_eq_true rfl⟩ ⟨Nat.le_refl _, Nat.le_refl _⟩ rfl hl.1 rfl (Nat.le_of_ble_eq_true rfl) d_L_law_690 (fun H locs hw => ?_)
              refine W.eq (g2 := F0 m 693 ls [.int r_361]) rfl ?_
              refine lv_istore (lv' := [(5, .int r_361), (0, .ref x0), (1, .ref x1), (2, .ref x2), (3, .ref x3), (4, .int x4)]) hx hb d_L_law_693 hl (by decide) rfl (fun ls hl => ?_)
              refine lv_aload_n hx hb d_L_law_695 rfl (lv_at hl 3 rfl) ?_
              refine lv_aload_n hx hb d_L_law_696 rfl (lv_at hl 1 rfl) ?_
              refine lv_iload hx hb d_L_law_697 (lv_at hl 5 rfl) ?_
              refine lv_iconst (v := 1) hx hb d_L_law_699 (by decide) ?_
              refine lv_iadd hx hb d_L_law_700 ?_
              refine xr_sld hx hb hX hw h122 d_L_law_701 ?_
              refine lv_aload_n hx hb d_L_law_702 rfl (lv_at hl 1 rfl) ?_
              refine lv_iload hx hb d_L_law_703 (lv_at hl 5 rfl) ?_
              refine lv_iconst (v := 2) hx hb d_L_law_705 (by decide) ?_
              refine lv_iadd hx hb d_L_law_706 ?_
              refine xr_sld hx hb hX hw h123 d_L_law_707 ?_
              refine xr_cV (As := [.int (xs (x4 + (1 : Int32)).toNatClampNeg), .int (xs (x4 + (2 : Int32)).toNatClampNeg)]) (rest := []) ⟨hx, hb, hml, hown, hts⟩ hw hM124 hle_u_364 (fun _ _ => ⟨callB_of 2 hts (xgood w_1004) rfl rfl rfl (hts _ (xm w_8)) (hts _ (xm w_1001)) ⟨by decide, by decide, by decide +kernel⟩ ⟨Nat.le_of_ble_eq_true rfl, Nat.le_of_ble_eq_true rfl⟩, (hts _ (xm w_1002)), (hts _ (xm w_1003))⟩) (qc := (R_M, F_M, 14)) rfl rfl h125 rfl hl.1 rfl (Nat.le_of_ble_eq_true rfl) d_L_law_708 (fun H locs hw => ?_)
              refine W.eq (g2 := F0 m 711 ls [.int r_365]) rfl ?_
              refine lv_istore (lv' := [(6, .int r_365), (5, .int r_361), (0, .ref x0), (1, .ref x1), (2, .ref x2), (3, .ref x3), (4, .int x4)]) hx hb d_L_law_711 hl (by decide) rfl (fun ls hl => ?_)
              refine lv_aload_n hx hb d_L_law_713 rfl (lv_at hl 4 rfl) ?_
              refine xr_cV (As := []) (rest := []) ⟨hx, hb, hml, hown, hts⟩ hw hM126 hle_u_366 (fun _ _ => ⟨callB_of 0 hts (xgood w_915) rfl rfl rfl (hts _ (xm w_8)) (hts _ (xm w_912)) ⟨by decide, by decide, by decide +kernel⟩ ⟨Nat.le_of_ble_eq_true rfl, Nat.le_of_ble_eq_true rfl⟩, (hts _ (xm w_913)), (hts _ (xm w_914))⟩) (qc := (R_M, F_M, 14)) rfl rfl h127 rfl hl.1 rfl (Nat.le_of_ble_eq_true rfl) d_L_law_714 (fun H locs hw => ?_)
              refine W.eq (g2 := F0 m 717 ls [.int r_367]) rfl ?_
              refine lv_iload hx hb d_L_law_717 (lv_at hl 1 rfl) ?_
              refine lv_icmp_eq (tgt := 724) hx hb d_L_law_719 (by decide) (fun _ => ?_) (fun c9 => absurd hc128 c9)
              refine lv_iload hx hb d_L_law_724 (lv_at hl 1 rfl) ?_
              refine lv_if_ne (tgt := 741) hx hb d_L_law_726 (by decide) (fun c9 => absurd hc129 c9) (fun _ => ?_)
              refine lv_aload_n hx hb d_L_law_729 rfl (lv_at hl 5 rfl) ?_
              refine lv_iconst (v := 0) hx hb d_L_law_730 (by decide) ?_
              refine xr_lald hx hb hw h130 d_L_law_731 ?_
              refine lv_iload hx hb d_L_law_732 (lv_at hl 0 rfl) ?_
              refine lv_i2l hx hb d_L_law_734 rfl ?_
              refine W.lcmp hx hb d_L_law_735 ?_
              refine lv_if_eq (tgt := 741) hx hb d_L_law_736 (by decide) (fun _ => ?_) (fun c9 => absurd hc131 c9)
              exact w9 p e s m args below meth c A H locs ls F hX hw (lv_sub hl [2, 3, 4, 5, 6] rfl)
            · have k := k.2 hc131
              obtain ⟨rv, v9, hK, hle_u_366, w9⟩ := hE739 u_366 k
              have hle_u_364 : x_le u_364 v9 := (hM126.1).tr hle_u_366
              have hle_u_360 : x_le u_360 v9 := (hM124.1).tr hle_u_364
              have hle_u : x_le u v9 := (hM121.1).tr hle_u_360
              refine ⟨rv, v9, hK, hle_u, ?_⟩
              intro p e s m args below meth c A H locs ls F hX hw hl
              obtain ⟨⟨hx, hb, hml, hown, hts⟩, hr, hlocks, hmn⟩ := id F
              refine lv_iload hx hb d_L_law_23 (lv_at hl 4 rfl) ?_
              refine lv_aload_n hx hb d_L_law_25 rfl (lv_at hl 0 rfl) ?_
              refine xr_slen hx hb hX hw d_L_law_26 ?_
              refine lv_iconst (v := 5) hx hb d_L_law_27 (by decide) ?_
              refine lv_isub hx hb d_L_law_28 ?_
              refine lv_icmp_gt (tgt := 1385) hx hb d_L_law_29 (by decide) (fun c9 => absurd c9 hc2) (fun _ => ?_)
              refine lv_aload_n hx hb d_L_law_32 rfl (lv_at hl 0 rfl) ?_
              refine lv_iload hx hb d_L_law_33 (lv_at hl 4 rfl) ?_
              refine xr_sld hx hb hX hw h3 d_L_law_35 ?_
              refine lv_bipush (v := 31) hx hb d_L_law_36 (by decide) ?_
              refine lv_iand hx hb d_L_law_38 ?_
              refine lv_tableIn (off := 637) (tgt := 676) hx hb d_L_law_39 (by rw [hc12]; decide) (by rw [hc12]; decide) (by rw [hc12]; rfl) (by decide) ?_
              refine lv_aload_n hx hb d_L_law_676 rfl (lv_at hl 1 rfl) ?_
              refine lv_aload_n hx hb d_L_law_677 rfl (lv_at hl 0 rfl) ?_
              refine lv_iload hx hb d_L_law_678 (lv_at hl 4 rfl) ?_
              refine lv_iconst (v := 1) hx hb d_L_law_680 (by decide) ?_
              refine lv_iadd hx hb d_L_law_681 ?_
              refine xr_sld hx hb hX hw h119 d_L_law_682 ?_
              refine lv_aload_n hx hb d_L_law_683 rfl (lv_at hl 0 rfl) ?_
              refine lv_iload hx hb d_L_law_684 (lv_at hl 4 rfl) ?_
              refine lv_iconst (v := 2) hx hb d_L_law_686 (by decide) ?_
              refine lv_iadd hx hb d_L_law_687 ?_
              refine xr_sld hx hb hX hw h120 d_L_law_688 ?_
              refine lv_aload_n hx hb d_L_law_689 rfl (lv_at hl 3 rfl) ?_
              refine xr_cSW (n := 4) (hh := hh_L_move) (As := [.ref x1, .int (xs (x4 + (1 : Int32)).toNatClampNeg), .int (xs (x4 + (2 : Int32)).toNatClampNeg), .ref x3]) (rest := []) ⟨hx, hb, hml, hown, hts⟩ hw hM121 hle_u_360 (xgood w_727) List.mem_cons_self (hts _ (xm w_0)) (hts _ (xm w_725)) (hts _ (xm w_726)) ⟨by decide, by decide, by decide +kernel⟩ ⟨Nat.le_of_ble_eq_true rfl, Nat.le_of_ble_eq_true rfl⟩ ⟨Nat.le_refl _, Nat.le_refl _⟩ rfl hl.1 rfl (Nat.le_of_ble_eq_true rfl) d_L_law_690 (fun H locs hw => ?_)
              refine W.eq (g2 := F0 m 693 ls [.int r_361]) rfl ?_
              refine lv_istore (lv' := [(5, .int r_361), (0, .ref x0), (1, .ref x1), (2, .ref x2), (3, .ref x3), (4, .int x4)]) hx hb d_L_law_693 hl (by decide) rfl (fun ls hl => ?_)
              refine lv_aload_n hx hb d_L_law_695 rfl (lv_at hl 3 rfl) ?_
              refine lv_aload_n hx hb d_L_law_696 rfl (lv_at hl 1 rfl) ?_
              refine lv_iload hx hb d_L_law_697 (lv_at hl 5 rfl) ?_
              refine lv_iconst (v := 1) hx hb d_L_law_699 (by decide) ?_
              refine lv_iadd hx hb d_L_law_700 ?_
              refine xr_sld hx hb hX hw h122 d_L_law_701 ?_
              refine lv_aload_n hx hb d_L_law_702 rfl (lv_at hl 1 rfl) ?_
              refine lv_iload hx hb d_L_law_703 (lv_at hl 5 rfl) ?_
              refine lv_iconst (v := 2) hx hb d_L_law_705 (by decide) ?_
              refine lv_iadd hx hb d_L_law_706 ?_
              refine xr_sld hx hb hX hw h123 d_L_law_707 ?_
              refine xr_cV (As := [.int (xs (x4 + (1 : Int32)).toNatClampNeg), .int (xs (x4 + (2 : Int32)).toNatClampNeg)]) (rest := []) ⟨hx, hb, hml, hown, hts⟩ hw hM124 hle_u_364 (fun _ _ => ⟨callB_of 2 hts (xgood w_1004) rfl rfl rfl (hts _ (xm w_8)) (hts _ (xm w_1001)) ⟨by decide, by decide, by decide +kernel⟩ ⟨Nat.le_of_ble_eq_true rfl, Nat.le_of_ble_eq_true rfl⟩, (hts _ (xm w_1002)), (hts _ (xm w_1003))⟩) (qc := (R_M, F_M, 14)) rfl rfl h125 rfl hl.1 rfl (Nat.le_of_ble_eq_true rfl) d_L_law_708 (fun H locs hw => ?_)
              refine W.eq (g2 := F0 m 711 ls [.int r_365]) rfl ?_
              refine lv_istore (lv' := [(6, .int r_365), (5, .int r_361), (0, .ref x0), (1, .ref x1), (2, .ref x2), (3, .ref x3), (4, .int x4)]) hx hb d_L_law_711 hl (by decide) rfl (fun ls hl => ?_)
              refine lv_aload_n hx hb d_L_law_713 rfl (lv_at hl 4 rfl) ?_
              refine xr_cV (As := []) (rest := []) ⟨hx, hb, hml, hown, hts⟩ hw hM126 hle_u_366 (fun _ _ => ⟨callB_of 0 hts (xgood w_915) rfl rfl rfl (hts _ (xm w_8)) (hts _ (xm w_912)) ⟨by decide, by decide, by decide +kernel⟩ ⟨Nat.le_of_ble_eq_true rfl, Nat.le_of_ble_eq_true rfl⟩, (hts _ (xm w_913)), (hts _ (xm w_914))⟩) (qc := (R_M, F_M, 14)) rfl rfl h127 rfl hl.1 rfl (Nat.le_of_ble_eq_true rfl) d_L_law_714 (fun H locs hw => ?_)
              refine W.eq (g2 := F0 m 717 ls [.int r_367]) rfl ?_
              refine lv_iload hx hb d_L_law_717 (lv_at hl 1 rfl) ?_
              refine lv_icmp_eq (tgt := 724) hx hb d_L_law_719 (by decide) (fun _ => ?_) (fun c9 => absurd hc128 c9)
              refine lv_iload hx hb d_L_law_724 (lv_at hl 1 rfl) ?_
              refine lv_if_ne (tgt := 741) hx hb d_L_law_726 (by decide) (fun c9 => absurd hc129 c9) (fun _ => ?_)
              refine lv_aload_n hx hb d_L_law_729 rfl (lv_at hl 5 rfl) ?_
              refine lv_iconst (v := 0) hx hb d_L_law_730 (by decide) ?_
              refine xr_lald hx hb hw h130 d_L_law_731 ?_
              refine lv_iload hx hb d_L_law_732 (lv_at hl 0 rfl) ?_
              refine lv_i2l hx hb d_L_law_734 rfl ?_
              refine W.lcmp hx hb d_L_law_735 ?_
              refine lv_if_eq (tgt := 741) hx hb d_L_law_736 (by decide) (fun c9 => absurd c9 hc131) (fun _ => ?_)
              exact w9 p e s m args below meth c A H locs ls F hX hw (lv_sub hl [] rfl)
          · have k := k.1 hc129
            obtain ⟨rv, v9, hK, hle_u_366, w9⟩ := t_L_law_J741 l Z u0 sL xs x0 x1 x2 x3 x4 u_366 ih hE175 hE223 hE295 hE367 hE439 hE511 hE599 hE671 hE722 hE739 hE778 hE795 hE811 hE847 hE864 hE903 hE920 hE959 hE976 hE1027 hE1051 hE1090 hE1107 hE1146 hE1163 hE1214 hE1238 hE1301 hE1318 hE1357 hE1374 hE1385 k
            have hle_u_364 : x_le u_364 v9 := (hM126.1).tr hle_u_366
            have hle_u_360 : x_le u_360 v9 := (hM124.1).tr hle_u_364
            have hle_u : x_le u v9 := (hM121.1).tr hle_u_360
            refine ⟨rv, v9, hK, hle_u, ?_⟩
            intro p e s m args below meth c A H locs ls F hX hw hl
            obtain ⟨⟨hx, hb, hml, hown, hts⟩, hr, hlocks, hmn⟩ := id F
            refine lv_iload hx hb d_L_law_23 (lv_at hl 4 rfl) ?_
            refine lv_aload_n hx hb d_L_law_25 rfl (lv_at hl 0 rfl) ?_
            refine xr_slen hx hb hX hw d_L_law_26 ?_
            refine lv_iconst (v := 5) hx hb d_L_law_27 (by decide) ?_
            refine lv_isub hx hb d_L_law_28 ?_
            refine lv_icmp_gt (tgt := 1385) hx hb d_L_law_29 (by decide) (fun c9 => absurd c9 hc2) (fun _ => ?_)
            refine lv_aload_n hx hb d_L_law_32 rfl (lv_at hl 0 rfl) ?_
            refine lv_iload hx hb d_L_law_33 (lv_at hl 4 rfl) ?_
            refine xr_sld hx hb hX hw h3 d_L_law_35 ?_
            refine lv_bipush (v := 31) hx hb d_L_law_36 (by decide) ?_
            refine lv_iand hx hb d_L_law_38 ?_
            refine lv_tableIn (off := 637) (tgt := 676) hx hb d_L_law_39 (by rw [hc12]; decide) (by rw [hc12]; decide) (by rw [hc12]; rfl) (by decide) ?_
            refine lv_aload_n hx hb d_L_law_676 rfl (lv_at hl 1 rfl) ?_
            refine lv_aload_n hx hb d_L_law_677 rfl (lv_at hl 0 rfl) ?_
            refine lv_iload hx hb d_L_law_678 (lv_at hl 4 rfl) ?_
            refine lv_iconst (v := 1) hx hb d_L_law_680 (by decide) ?_
            refine lv_iadd hx hb d_L_law_681 ?_
            refine xr_sld hx hb hX hw h119 d_L_law_682 ?_
            refine lv_aload_n hx hb d_L_law_683 rfl (lv_at hl 0 rfl) ?_
            refine lv_iload hx hb d_L_law_684 (lv_at hl 4 rfl) ?_
            refine lv_iconst (v := 2) hx hb d_L_law_686 (by decide) ?_
            refine lv_iadd hx hb d_L_law_687 ?_
            refine xr_sld hx hb hX hw h120 d_L_law_688 ?_
            refine lv_aload_n hx hb d_L_law_689 rfl (lv_at hl 3 rfl) ?_
            refine xr_cSW (n := 4) (hh := hh_L_move) (As := [.ref x1, .int (xs (x4 + (1 : Int32)).toNatClampNeg), .int (xs (x4 + (2 : Int32)).toNatClampNeg), .ref x3]) (rest := []) ⟨hx, hb, hml, hown, hts⟩ hw hM121 hle_u_360 (xgood w_727) List.mem_cons_self (hts _ (xm w_0)) (hts _ (xm w_725)) (hts _ (xm w_726)) ⟨by decide, by decide, by decide +kernel⟩ ⟨Nat.le_of_ble_eq_true rfl, Nat.le_of_ble_eq_true rfl⟩ ⟨Nat.le_refl _, Nat.le_refl _⟩ rfl hl.1 rfl (Nat.le_of_ble_eq_true rfl) d_L_law_690 (fun H locs hw => ?_)
            refine W.eq (g2 := F0 m 693 ls [.int r_361]) rfl ?_
            refine lv_istore (lv' := [(5, .int r_361), (0, .ref x0), (1, .ref x1), (2, .ref x2), (3, .ref x3), (4, .int x4)]) hx hb d_L_law_693 hl (by decide) rfl (fun ls hl => ?_)
            refine lv_aload_n hx hb d_L_law_695 rfl (lv_at hl 3 rfl) ?_
            refine lv_aload_n hx hb d_L_law_696 rfl (lv_at hl 1 rfl) ?_
            refine lv_iload hx hb d_L_law_697 (lv_at hl 5 rfl) ?_
            refine lv_iconst (v := 1) hx hb d_L_law_699 (by decide) ?_
            refine lv_iadd hx hb d_L_law_700 ?_
            refine xr_sld hx hb hX hw h122 d_L_law_701 ?_
            refine lv_aload_n hx hb d_L_law_702 rfl (lv_at hl 1 rfl) ?_
            refine lv_iload hx hb d_L_law_703 (lv_at hl 5 rfl) ?_
            refine lv_iconst (v := 2) hx hb d_L_law_705 (by decide) ?_
            refine lv_iadd hx hb d_L_law_706 ?_
            refine xr_sld hx hb hX hw h123 d_L_law_707 ?_
            refine xr_cV (As := [.int (xs (x4 + (1 : Int32)).toNatClampNeg), .int (xs (x4 + (2 : Int32)).toNatClampNeg)]) (rest := []) ⟨hx, hb, hml, hown, hts⟩ hw hM124 hle_u_364 (fun _ _ => ⟨callB_of 2 hts (xgood w_1004) rfl rfl rfl (hts _ (xm w_8)) (hts _ (xm w_1001)) ⟨by decide, by decide, by decide +kernel⟩ ⟨Nat.le_of_ble_eq_true rfl, Nat.le_of_ble_eq_true rfl⟩, (hts _ (xm w_1002)), (hts _ (xm w_1003))⟩) (qc := (R_M, F_M, 14)) rfl rfl h125 rfl hl.1 rfl (Nat.le_of_ble_eq_true rfl) d_L_law_708 (fun H locs hw => ?_)
            refine W.eq (g2 := F0 m 711 ls [.int r_365]) rfl ?_
            refine lv_istore (lv' := [(6, .int r_365), (5, .int r_361), (0, .ref x0), (1, .ref x1), (2, .ref x2), (3, .ref x3), (4, .int x4)]) hx hb d_L_law_711 hl (by decide) rfl (fun ls hl => ?_)
            refine lv_aload_n hx hb d_L_law_713 rfl (lv_at hl 4 rfl) ?_
            refine xr_cV (As := []) (rest := []) ⟨hx, hb, hml, hown, hts⟩ hw hM126 hle_u_366 (fun _ _ => ⟨callB_of 0 hts (xgood w_915) rfl rfl rfl (hts _ (xm w_8)) (hts _ (xm w_912)) ⟨by decide, by decide, by decide +kernel⟩ ⟨Nat.le_of_ble_eq_true rfl, Nat.le_of_ble_eq_true rfl⟩, (hts _ (xm w_913)), (hts _ (xm w_914))⟩) (qc := (R_M, F_M, 14)) rfl rfl h127 rfl hl.1 rfl (Nat.le_of_ble_eq_true rfl) d_L_law_714 (fun H locs hw => ?_)
            refine W.eq (g2 := F0 m 717 ls [.int r_367]) rfl ?_
            refine lv_iload hx hb d_L_law_717 (lv_at hl 1 rfl) ?_
            refine lv_icmp_eq (tgt := 724) hx hb d_L_law_719 (by decide) (fun _ => ?_) (fun c9 => absurd hc128 c9)
            refine lv_iload hx hb d_L_law_724 (lv_at hl 1 rfl) ?_
            refine lv_if_ne (tgt := 741) hx hb d_L_law_726 (by decide) (fun _ => ?_) (fun c9 => absurd c9 hc129)
            exact w9 p e s m args below meth c A H locs ls F hX hw (lv_sub hl [2, 3, 4, 5, 6] rfl)
        · have k := k.2 hc128
          obtain ⟨rv, v9, hK, hle_u_366, w9⟩ := hE722 u_366 k
          have hle_u_364 : x_le u_364 v9 := (hM126.1).tr hle_u_366
          have hle_u_360 : x_le u_360 v9 := (hM124.1).tr hle_u_364
          have hle_u : x_le u v9 := (hM121.1).tr hle_u_360
          refine ⟨rv, v9, hK, hle_u, ?_⟩
          intro p e s m args below meth c A H locs ls F hX hw hl
          obtain ⟨⟨hx, hb, hml, hown, hts⟩, hr, hlocks, hmn⟩ := id F
          refine lv_iload hx hb d_L_law_23 (lv_at hl 4 rfl) ?_
          refine lv_aload_n hx hb d_L_law_25 rfl (lv_at hl 0 rfl) ?_
          refine xr_slen hx hb hX hw d_L_law_26 ?_
          refine lv_iconst (v := 5) hx hb d_L_law_27 (by decide) ?_
          refine lv_isub hx hb d_L_law_28 ?_
          refine lv_icmp_gt (tgt := 1385) hx hb d_L_law_29 (by decide) (fun c9 => absurd c9 hc2) (fun _ => ?_)
          refine lv_aload_n hx hb d_L_law_32 rfl (lv_at hl 0 rfl) ?_
          refine lv_iload hx hb d_L_law_33 (lv_at hl 4 rfl) ?_
          refine xr_sld hx hb hX hw h3 d_L_law_35 ?_
          refine lv_bipush (v := 31) hx hb d_L_law_36 (by decide) ?_
          refine lv_iand hx hb d_L_law_38 ?_
          refine lv_tableIn (off := 637) (tgt := 676) hx hb d_L_law_39 (by rw [hc12]; decide) (by rw [hc12]; decide) (by rw [hc12]; rfl) (by decide) ?_
          refine lv_aload_n hx hb d_L_law_676 rfl (lv_at hl 1 rfl) ?_
          refine lv_aload_n hx hb d_L_law_677 rfl (lv_at hl 0 rfl) ?_
          refine lv_iload hx hb d_L_law_678 (lv_at hl 4 rfl) ?_
          refine lv_iconst (v := 1) hx hb d_L_law_680 (by decide) ?_
          refine lv_iadd hx hb d_L_law_681 ?_
          refine xr_sld hx hb hX hw h119 d_L_law_682 ?_
          refine lv_aload_n hx hb d_L_law_683 rfl (lv_at hl 0 rfl) ?_
          refine lv_iload hx hb d_L_law_684 (lv_at hl 4 rfl) ?_
          refine lv_iconst (v := 2) hx hb d_L_law_686 (by decide) ?_
          refine lv_iadd hx hb d_L_law_687 ?_
          refine xr_sld hx hb hX hw h120 d_L_law_688 ?_
          refine lv_aload_n hx hb d_L_law_689 rfl (lv_at hl 3 rfl) ?_
          refine xr_cSW (n := 4) (hh := hh_L_move) (As := [.ref x1, .int (xs (x4 + (1 : Int32)).toNatClampNeg), .int (xs (x4 + (2 : Int32)).toNatClampNeg), .ref x3]) (rest := []) ⟨hx, hb, hml, hown, hts⟩ hw hM121 hle_u_360 (xgood w_727) List.mem_cons_self (hts _ (xm w_0)) (hts _ (xm w_725)) (hts _ (xm w_726)) ⟨by decide, by decide, by decide +kernel⟩ ⟨Nat.le_of_ble_eq_true rfl, Nat.le_of_ble_eq_true rfl⟩ ⟨Nat.le_refl _, Nat.le_refl _⟩ rfl hl.1 rfl (Nat.le_of_ble_eq_true rfl) d_L_law_690 (fun H locs hw => ?_)
          refine W.eq (g2 := F0 m 693 ls [.int r_361]) rfl ?_
          refine lv_istore (lv' := [(5, .int r_361), (0, .ref x0), (1, .ref x1), (2, .ref x2), (3, .ref x3), (4, .int x4)]) hx hb d_L_law_693 hl (by decide) rfl (fun ls hl => ?_)
          refine lv_aload_n hx hb d_L_law_695 rfl (lv_at hl 3 rfl) ?_
          refine lv_aload_n hx hb d_L_law_696 rfl (lv_at hl 1 rfl) ?_
          refine lv_iload hx hb d_L_law_697 (lv_at hl 5 rfl) ?_
          refine lv_iconst (v := 1) hx hb d_L_law_699 (by decide) ?_
          refine lv_iadd hx hb d_L_law_700 ?_
          refine xr_sld hx hb hX hw h122 d_L_law_701 ?_
          refine lv_aload_n hx hb d_L_law_702 rfl (lv_at hl 1 rfl) ?_
          refine lv_iload hx hb d_L_law_703 (lv_at hl 5 rfl) ?_
          refine lv_iconst (v := 2) hx hb d_L_law_705 (by decide) ?_
          refine lv_iadd hx hb d_L_law_706 ?_
          refine xr_sld hx hb hX hw h123 d_L_law_707 ?_
          refine xr_cV (As := [.int (xs (x4 + (1 : Int32)).toNatClampNeg), .int (xs (x4 + (2 : Int32)).toNatClampNeg)]) (rest := []) ⟨hx, hb, hml, hown, hts⟩ hw hM124 hle_u_364 (fun _ _ => ⟨callB_of 2 hts (xgood w_1004) rfl rfl rfl (hts _ (xm w_8)) (hts _ (xm w_1001)) ⟨by decide, by decide, by decide +kernel⟩ ⟨Nat.le_of_ble_eq_true rfl, Nat.le_of_ble_eq_true rfl⟩, (hts _ (xm w_1002)), (hts _ (xm w_1003))⟩) (qc := (R_M, F_M, 14)) rfl rfl h125 rfl hl.1 rfl (Nat.le_of_ble_eq_true rfl) d_L_law_708 (fun H locs hw => ?_)
          refine W.eq (g2 := F0 m 711 ls [.int r_365]) rfl ?_
          refine lv_istore (lv' := [(6, .int r_365), (5, .int r_361), (0, .ref x0), (1, .ref x1), (2, .ref x2), (3, .ref x3), (4, .int x4)]) hx hb d_L_law_711 hl (by decide) rfl (fun ls hl => ?_)
          refine lv_aload_n hx hb d_L_law_713 rfl (lv_at hl 4 rfl) ?_
          refine xr_cV (As := []) (rest := []) ⟨hx, hb, hml, hown, hts⟩ hw hM126 hle_u_366 (fun _ _ => ⟨callB_of 0 hts (xgood w_915) rfl rfl rfl (hts _ (xm w_8)) (hts _ (xm w_912)) ⟨by decide, by decide, by decide +kernel⟩ ⟨Nat.le_of_ble_eq_true rfl, Nat.le_of_ble_eq_true rfl⟩, (hts _ (xm w_913)), (hts _ (xm w_914))⟩) (qc := (R_M, F_M, 14)) rfl rfl h127 rfl hl.1 rfl (Nat.le_of_ble_eq_true rfl) d_L_law_714 (fun H locs hw => ?_)
          refine W.eq (g2 := F0 m 717 ls [.int r_367]) rfl ?_
          refine lv_iload hx hb d_L_law_717 (lv_at hl 1 rfl) ?_
          refine lv_icmp_eq (tgt := 724) hx hb d_L_law_719 (by decide) (fun c9 => absurd c9 hc128) (fun _ => ?_)
          exact w9 p e s m args below meth c A H locs ls F hX hw (lv_sub hl [] rfl)
      by_cases hc13 : ((xs x4.toNatClampNeg) &&& (31 : Int32)) = 9
      · have k := k.2.2.2.2.2.2.2.2.2.1 hc13
        obtain ⟨h132, k⟩ := k
        obtain ⟨_, u_370, ⟨r_371, rfl, k⟩, hM133⟩ := c_L_sift l Z x1 (xs (x4 + (1 : Int32)).toNatClampNeg) x3 u _ k
        obtain ⟨h134, k⟩ := k
        obtain ⟨h136, k⟩ := k
        obtain ⟨_, u_373, ⟨r_374, rfl, k⟩, hM135⟩ := c_M_sift l Z x2 (xs (x4 + (1 : Int32)).toNatClampNeg) u_370 _ k
        obtain ⟨h138, k⟩ := k
        obtain ⟨_, u_375, ⟨r_376, rfl, k⟩, hM137⟩ := c_M_thrown l Z x2 u_373 _ k
        by_cases hc139 : r_376 = r_371
        · have k := k.1 hc139
          by_cases hc140 : r_371 = 0
          · have k := k.2 hc140
            obtain ⟨z_377, h141, k⟩ := k
            by_cases hc142 : (lg_cmp z_377 (r_374.toInt64)) = 0
            · have k := k.1 hc142
              obtain ⟨rv, v9, hK, hle_u_375, w9⟩ := t_L_law_J797 l Z u0 sL xs x0 x1 x2 x3 x4 u_375 ih hE175 hE223 hE295 hE367 hE439 hE511 hE599 hE671 hE722 hE739 hE778 hE795 hE811 hE847 hE864 hE903 hE920 hE959 hE976 hE1027 hE1051 hE1090 hE1107 hE1146 hE1163 hE1214 hE1238 hE1301 hE1318 hE1357 hE1374 hE1385 k
              have hle_u_373 : x_le u_373 v9 := (hM137.1).tr hle_u_375
              have hle_u_370 : x_le u_370 v9 := (hM135.1).tr hle_u_373
              have hle_u : x_le u v9 := (hM133.1).tr hle_u_370
              refine ⟨rv, v9, hK, hle_u, ?_⟩
              intro p e s m args below meth c A H locs ls F hX hw hl
              obtain ⟨⟨hx, hb, hml, hown, hts⟩, hr, hlocks, hmn⟩ := id F
              refine lv_iload hx hb d_L_law_23 (lv_at hl 4 rfl) ?_
              refine lv_aload_n hx hb d_L_law_25 rfl (lv_at hl 0 rfl) ?_
              refine xr_slen hx hb hX hw d_L_law_26 ?_
              refine lv_iconst (v := 5) hx hb d_L_law_27 (by decide) ?_
              refine lv_isub hx hb d_L_law_28 ?_
              refine lv_icmp_gt (tgt := 1385) hx hb d_L_law_29 (by decide) (fun c9 => absurd c9 hc2) (fun _ => ?_)
              refine lv_aload_n hx hb d_L_law_32 rfl (lv_at hl 0 rfl) ?_
              refine lv_iload hx hb d_L_law_33 (lv_at hl 4 rfl) ?_
              refine xr_sld hx hb hX hw h3 d_L_law_35 ?_
              refine lv_bipush (v := 31) hx hb d_L_law_36 (by decide) ?_
              refine lv_iand hx hb d_L_law_38 ?_
              refine lv_tableIn (off := 705) (tgt := 744) hx hb d_L_law_39 (by rw [hc13]; decide) (by rw [hc13]; decide) (by rw [hc13]; rfl) (by decide) ?_
              refine lv_aload_n hx hb d_L_law_744 rfl (lv_at hl 1 rfl) ?_
              refine lv_aload_n hx hb d_L_law_745 rfl (lv_at hl 0 rfl) ?_
              refine lv_iload hx hb d_L_law_746 (lv_at hl 4 rfl) ?_
              refine lv_iconst (v := 1) hx hb d_L_law_748 (by decide) ?_
              refine lv_iadd hx hb d_L_law_749 ?_
              refine xr_sld hx hb hX hw h132 d_L_law_750 ?_
              refine lv_aload_n hx hb d_L_law_751 rfl (lv_at hl 3 rfl) ?_
              refine xr_cSW (n := 3) (hh := hh_L_sift) (As := [.ref x1, .int (xs (x4 + (1 : Int32)).toNatClampNeg), .ref x3]) (rest := []) ⟨hx, hb, hml, hown, hts⟩ hw hM133 hle_u_370 (xgood w_738) List.mem_cons_self (hts _ (xm w_0)) (hts _ (xm w_736)) (hts _ (xm w_737)) ⟨by decide, by decide, by decide +kernel⟩ ⟨Nat.le_of_ble_eq_true rfl, Nat.le_of_ble_eq_true rfl⟩ ⟨Nat.le_refl _, Nat.le_refl _⟩ rfl hl.1 rfl (Nat.le_of_ble_eq_true rfl) d_L_law_752 (fun H locs hw => ?_)
              refine W.eq (g2 := F0 m 755 ls [.int r_371]) rfl ?_
              refine lv_istore (lv' := [(5, .int r_371), (0, .ref x0), (1, .ref x1), (2, .ref x2), (3, .ref x3), (4, .int x4)]) hx hb d_L_law_755 hl (by decide) rfl (fun ls hl => ?_)
              refine lv_aload_n hx hb d_L_law_757 rfl (lv_at hl 3 rfl) ?_
              refine lv_aload_n hx hb d_L_law_758 rfl (lv_at hl 1 rfl) ?_
              refine lv_iload hx hb d_L_law_759 (lv_at hl 5 rfl) ?_
              refine lv_iconst (v := 1) hx hb d_L_law_761 (by decide) ?_
              refine lv_iadd hx hb d_L_law_762 ?_
              refine xr_sld hx hb hX hw h134 d_L_law_763 ?_
              refine xr_cV (As := [.int (xs (x4 + (1 : Int32)).toNatClampNeg)]) (rest := []) ⟨hx, hb, hml, hown, hts⟩ hw hM135 hle_u_373 (fun _ _ => ⟨callB_of 1 hts (xgood w_1016) rfl rfl rfl (hts _ (xm w_8)) (hts _ (xm w_1013)) ⟨by decide, by decide, by decide +kernel⟩ ⟨Nat.le_of_ble_eq_true rfl, Nat.le_of_ble_eq_true rfl⟩, (hts _ (xm w_1014)), (hts _ (xm w_1015))⟩) (qc := (R_M, F_M, 14)) rfl rfl h136 rfl hl.1 rfl (Nat.le_of_ble_eq_true rfl) d_L_law_764 (fun H locs hw => ?_)
              refine W.eq (g2 := F0 m 767 ls [.int r_374]) rfl ?_
              refine lv_istore (lv' := [(6, .int r_374), (5, .int r_371), (0, .ref x0), (1, .ref x1), (2, .ref x2), (3, .ref x3), (4, .int x4)]) hx hb d_L_law_767 hl (by decide) rfl (fun ls hl => ?_)
              refine lv_aload_n hx hb d_L_law_769 rfl (lv_at hl 4 rfl) ?_
              refine xr_cV (As := []) (rest := []) ⟨hx, hb, hml, hown, hts⟩ hw hM137 hle_u_375 (fun _ _ => ⟨callB_of 0 hts (xgood w_915) rfl rfl rfl (hts _ (xm w_8)) (hts _ (xm w_912)) ⟨by decide, by decide, by decide +kernel⟩ ⟨Nat.le_of_ble_eq_true rfl, Nat.le_of_ble_eq_true rfl⟩, (hts _ (xm w_913)), (hts _ (xm w_914))⟩) (qc := (R_M, F_M, 14)) rfl rfl h138 rfl hl.1 rfl (Nat.le_of_ble_eq_true rfl) d_L_law_770 (fun H locs hw => ?_)
              refine W.eq (g2 := F0 m 773 ls [.int r_376]) rfl ?_
              refine lv_iload hx hb d_L_law_773 (lv_at hl 1 rfl) ?_
              refine lv_icmp_eq (tgt := 780) hx hb d_L_law_775 (by decide) (fun _ => ?_) (fun c9 => absurd hc139 c9)
              refine lv_iload hx hb d_L_law_780 (lv_at hl 1 rfl) ?_
              refine lv_if_ne (tgt := 797) hx hb d_L_law_782 (by decide) (fun c9 => absurd hc140 c9) (fun _ => ?_)
              refine lv_aload_n hx hb d_L_law_785 rfl (lv_at hl 5 rfl) ?_
              refine lv_iconst (v := 0) hx hb d_L_law_786 (by decide) ?_
              refine xr_lald hx hb hw h141 d_L_law_787 ?_
              refine lv_iload hx hb d_L_law_788 (lv_at hl 0 rfl) ?_
              refine lv_i2l hx hb d_L_law_790 rfl ?_
              refine W.lcmp hx hb d_L_law_791 ?_
              refine lv_if_eq (tgt := 797) hx hb d_L_law_792 (by decide) (fun _ => ?_) (fun c9 => absurd hc142 c9)
              exact w9 p e s m args below meth c A H locs ls F hX hw (lv_sub hl [2, 3, 4, 5, 6] rfl)
            · have k := k.2 hc142
              obtain ⟨rv, v9, hK, hle_u_375, w9⟩ := hE795 u_375 k
              have hle_u_373 : x_le u_373 v9 := (hM137.1).tr hle_u_375
              have hle_u_370 : x_le u_370 v9 := (hM135.1).tr hle_u_373
              have hle_u : x_le u v9 := (hM133.1).tr hle_u_370
              refine ⟨rv, v9, hK, hle_u, ?_⟩
              intro p e s m args below meth c A H locs ls F hX hw hl
              obtain ⟨⟨hx, hb, hml, hown, hts⟩, hr, hlocks, hmn⟩ := id F
              refine lv_iload hx hb d_L_law_23 (lv_at hl 4 rfl) ?_
              refine lv_aload_n hx hb d_L_law_25 rfl (lv_at hl 0 rfl) ?_
              refine xr_slen hx hb hX hw d_L_law_26 ?_
              refine lv_iconst (v := 5) hx hb d_L_law_27 (by decide) ?_
              refine lv_isub hx hb d_L_law_28 ?_
              refine lv_icmp_gt (tgt := 1385) hx hb d_L_law_29 (by decide) (fun c9 => absurd c9 hc2) (fun _ => ?_)
              refine lv_aload_n hx hb d_L_law_32 rfl (lv_at hl 0 rfl) ?_
              refine lv_iload hx hb d_L_law_33 (lv_at hl 4 rfl) ?_
              refine xr_sld hx hb hX hw h3 d_L_law_35 ?_
              refine lv_bipush (v := 31) hx hb d_L_law_36 (by decide) ?_
              refine lv_iand hx hb d_L_law_38 ?_
              refine lv_tableIn (off := 705) (tgt := 744) hx hb d_L_law_39 (by rw [hc13]; decide) (by rw [hc13]; decide) (by rw [hc13]; rfl) (by decide) ?_
              refine lv_aload_n hx hb d_L_law_744 rfl (lv_at hl 1 rfl) ?_
              refine lv_aload_n hx hb d_L_law_745 rfl (lv_at hl 0 rfl) ?_
              refine lv_iload hx hb d_L_law_746 (lv_at hl 4 rfl) ?_
              refine lv_iconst (v := 1) hx hb d_L_law_748 (by decide) ?_
              refine lv_iadd hx hb d_L_law_749 ?_
              refine xr_sld hx hb hX hw h132 d_L_law_750 ?_
              refine lv_aload_n hx hb d_L_law_751 rfl (lv_at hl 3 rfl) ?_
              refine xr_cSW (n := 3) (hh := hh_L_sift) (As := [.ref x1, .int (xs (x4 + (1 : Int32)).toNatClampNeg), .ref x3]) (rest := []) ⟨hx, hb, hml, hown, hts⟩ hw hM133 hle_u_370 (xgood w_738) List.mem_cons_self (hts _ (xm w_0)) (hts _ (xm w_736)) (hts _ (xm w_737)) ⟨by decide, by decide, by decide +kernel⟩ ⟨Nat.le_of_ble_eq_true rfl, Nat.le_of_ble_eq_true rfl⟩ ⟨Nat.le_refl _, Nat.le_refl _⟩ rfl hl.1 rfl (Nat.le_of_ble_eq_true rfl) d_L_law_752 (fun H locs hw => ?_)
              refine W.eq (g2 := F0 m 755 ls [.int r_371]) rfl ?_
              refine lv_istore (lv' := [(5, .int r_371), (0, .ref x0), (1, .ref x1), (2, .ref x2), (3, .ref x3), (4, .int x4)]) hx hb d_L_law_755 hl (by decide) rfl (fun ls hl => ?_)
              refine lv_aload_n hx hb d_L_law_757 rfl (lv_at hl 3 rfl) ?_
              refine lv_aload_n hx hb d_L_law_758 rfl (lv_at hl 1 rfl) ?_
              refine lv_iload hx hb d_L_law_759 (lv_at hl 5 rfl) ?_
              refine lv_iconst (v := 1) hx hb d_L_law_761 (by decide) ?_
              refine lv_iadd hx hb d_L_law_762 ?_
              refine xr_sld hx hb hX hw h134 d_L_law_763 ?_
              refine xr_cV (As := [.int (xs (x4 + (1 : Int32)).toNatClampNeg)]) (rest := []) ⟨hx, hb, hml, hown, hts⟩ hw hM135 hle_u_373 (fun _ _ => ⟨callB_of 1 hts (xgood w_1016) rfl rfl rfl (hts _ (xm w_8)) (hts _ (xm w_1013)) ⟨by decide, by decide, by decide +kernel⟩ ⟨Nat.le_of_ble_eq_true rfl, Nat.le_of_ble_eq_true rfl⟩, (hts _ (xm w_1014)), (hts _ (xm w_1015))⟩) (qc := (R_M, F_M, 14)) rfl rfl h136 rfl hl.1 rfl (Nat.le_of_ble_eq_true rfl) d_L_law_764 (fun H locs hw => ?_)
              refine W.eq (g2 := F0 m 767 ls [.int r_374]) rfl ?_
              refine lv_istore (lv' := [(6, .int r_374), (5, .int r_371), (0, .ref x0), (1, .ref x1), (2, .ref x2), (3, .ref x3), (4, .int x4)]) hx hb d_L_law_767 hl (by decide) rfl (fun ls hl => ?_)
              refine lv_aload_n hx hb d_L_law_769 rfl (lv_at hl 4 rfl) ?_
              refine xr_cV (As := []) (rest := []) ⟨hx, hb, hml, hown, hts⟩ hw hM137 hle_u_375 (fun _ _ => ⟨callB_of 0 hts (xgood w_915) rfl rfl rfl (hts _ (xm w_8)) (hts _ (xm w_912)) ⟨by decide, by decide, by decide +kernel⟩ ⟨Nat.le_of_ble_eq_true rfl, Nat.le_of_ble_eq_true rfl⟩, (hts _ (xm w_913)), (hts _ (xm w_914))⟩) (qc := (R_M, F_M, 14)) rfl rfl h138 rfl hl.1 rfl (Nat.le_of_ble_eq_true rfl) d_L_law_770 (fun H locs hw => ?_)
              refine W.eq (g2 := F0 m 773 ls [.int r_376]) rfl ?_
              refine lv_iload hx hb d_L_law_773 (lv_at hl 1 rfl) ?_
              refine lv_icmp_eq (tgt := 780) hx hb d_L_law_775 (by decide) (fun _ => ?_) (fun c9 => absurd hc139 c9)
              refine lv_iload hx hb d_L_law_780 (lv_at hl 1 rfl) ?_
              refine lv_if_ne (tgt := 797) hx hb d_L_law_782 (by decide) (fun c9 => absurd hc140 c9) (fun _ => ?_)
              refine lv_aload_n hx hb d_L_law_785 rfl (lv_at hl 5 rfl) ?_
              refine lv_iconst (v := 0) hx hb d_L_law_786 (by decide) ?_
              refine xr_lald hx hb hw h141 d_L_law_787 ?_
              refine lv_iload hx hb d_L_law_788 (lv_at hl 0 rfl) ?_
              refine lv_i2l hx hb d_L_law_790 rfl ?_
              refine W.lcmp hx hb d_L_law_791 ?_
              refine lv_if_eq (tgt := 797) hx hb d_L_law_792 (by decide) (fun c9 => absurd c9 hc142) (fun _ => ?_)
              exact w9 p e s m args below meth c A H locs ls F hX hw (lv_sub hl [] rfl)
          · have k := k.1 hc140
            obtain ⟨rv, v9, hK, hle_u_375, w9⟩ := t_L_law_J797 l Z u0 sL xs x0 x1 x2 x3 x4 u_375 ih hE175 hE223 hE295 hE367 hE439 hE511 hE599 hE671 hE722 hE739 hE778 hE795 hE811 hE847 hE864 hE903 hE920 hE959 hE976 hE1027 hE1051 hE1090 hE1107 hE1146 hE1163 hE1214 hE1238 hE1301 hE1318 hE1357 hE1374 hE1385 k
            have hle_u_373 : x_le u_373 v9 := (hM137.1).tr hle_u_375
            have hle_u_370 : x_le u_370 v9 := (hM135.1).tr hle_u_373
            have hle_u : x_le u v9 := (hM133.1).tr hle_u_370
            refine ⟨rv, v9, hK, hle_u, ?_⟩
            intro p e s m args below meth c A H locs ls F hX hw hl
            obtain ⟨⟨hx, hb, hml, hown, hts⟩, hr, hlocks, hmn⟩ := id F
            refine lv_iload hx hb d_L_law_23 (lv_at hl 4 rfl) ?_
            refine lv_aload_n hx hb d_L_law_25 rfl (lv_at hl 0 rfl) ?_
            refine xr_slen hx hb hX hw d_L_law_26 ?_
            refine lv_iconst (v := 5) hx hb d_L_law_27 (by decide) ?_
            refine lv_isub hx hb d_L_law_28 ?_
            refine lv_icmp_gt (tgt := 1385) hx hb d_L_law_29 (by decide) (fun c9 => absurd c9 hc2) (fun _ => ?_)
            refine lv_aload_n hx hb d_L_law_32 rfl (lv_at hl 0 rfl) ?_
            refine lv_iload hx hb d_L_law_33 (lv_at hl 4 rfl) ?_
            refine xr_sld hx hb hX hw h3 d_L_law_35 ?_
            refine lv_bipush (v := 31) hx hb d_L_law_36 (by decide) ?_
            refine lv_iand hx hb d_L_law_38 ?_
            refine lv_tableIn (off := 705) (tgt := 744) hx hb d_L_law_39 (by rw [hc13]; decide) (by rw [hc13]; decide) (by rw [hc13]; rfl) (by decide) ?_
            refine lv_aload_n hx hb d_L_law_744 rfl (lv_at hl 1 rfl) ?_
            refine lv_aload_n hx hb d_L_law_745 rfl (lv_at hl 0 rfl) ?_
            refine lv_iload hx hb d_L_law_746 (lv_at hl 4 rfl) ?_
            refine lv_iconst (v := 1) hx hb d_L_law_748 (by decide) ?_
            refine lv_iadd hx hb d_L_law_749 ?_
            refine xr_sld hx hb hX hw h132 d_L_law_750 ?_
            refine lv_aload_n hx hb d_L_law_751 rfl (lv_at hl 3 rfl) ?_
            refine xr_cSW (n := 3) (hh := hh_L_sift) (As := [.ref x1, .int (xs (x4 + (1 : Int32)).toNatClampNeg), .ref x3]) (rest := []) ⟨hx, hb, hml, hown, hts⟩ hw hM133 hle_u_370 (xgood w_738) List.mem_cons_self (hts _ (xm w_0)) (hts _ (xm w_736)) (hts _ (xm w_737)) ⟨by decide, by decide, by decide +kernel⟩ ⟨Nat.le_of_ble_eq_true rfl, Nat.le_of_ble_eq_true rfl⟩ ⟨Nat.le_refl _, Nat.le_refl _⟩ rfl hl.1 rfl (Nat.le_of_ble_eq_true rfl) d_L_law_752 (fun H locs hw => ?_)
            refine W.eq (g2 := F0 m 755 ls [.int r_371]) rfl ?_
            refine lv_istore (lv' := [(5, .int r_371), (0, .ref x0), (1, .ref x1), (2, .ref x2), (3, .ref x3), (4, .int x4)]) hx hb d_L_law_755 hl (by decide) rfl (fun ls hl => ?_)
            refine lv_aload_n hx hb d_L_law_757 rfl (lv_at hl 3 rfl) ?_
            refine lv_aload_n hx hb d_L_law_758 rfl (lv_at hl 1 rfl) ?_
            refine lv_iload hx hb d_L_law_759 (lv_at hl 5 rfl) ?_
            refine lv_iconst (v := 1) hx hb d_L_law_761 (by decide) ?_
            refine lv_iadd hx hb d_L_law_762 ?_
            refine xr_sld hx hb hX hw h134 d_L_law_763 ?_
            refine xr_cV (As := [.int (xs (x4 + (1 : Int32)).toNatClampNeg)]) (rest := []) ⟨hx, hb, hml, hown, hts⟩ hw hM135 hle_u_373 (fun _ _ => ⟨callB_of 1 hts (xgood w_1016) rfl rfl rfl (hts _ (xm w_8)) (hts _ (xm w_1013)) ⟨by decide, by decide, by decide +kernel⟩ ⟨Nat.le_of_ble_eq_true rfl, Nat.le_of_ble_eq_true rfl⟩, (hts _ (xm w_1014)), (hts _ (xm w_1015))⟩) (qc := (R_M, F_M, 14)) rfl rfl h136 rfl hl.1 rfl (Nat.le_of_ble_eq_true rfl) d_L_law_764 (fun H locs hw => ?_)
            refine W.eq (g2 := F0 m 767 ls [.int r_374]) rfl ?_
            refine lv_istore (lv' := [(6, .int r_374), (5, .int r_371), (0, .ref x0), (1, .ref x1), (2, .ref x2), (3, .ref x3), (4, .int x4)]) hx hb d_L_law_767 hl (by decide) rfl (fun ls hl => ?_)
            refine lv_aload_n hx hb d_L_law_769 rfl (lv_at hl 4 rfl) ?_
            refine xr_cV (As := []) (rest := []) ⟨hx, hb, hml, hown, hts⟩ hw hM137 hle_u_375 (fun _ _ => ⟨callB_of 0 hts (xgood w_915) rfl rfl rfl (hts _ (xm w_8)) (hts _ (xm w_912)) ⟨by decide, by decide, by decide +kernel⟩ ⟨Nat.le_of_ble_eq_true rfl, Nat.le_of_ble_eq_true rfl⟩, (hts _ (xm w_913)), (hts _ (xm w_914))⟩) (qc := (R_M, F_M, 14)) rfl rfl h138 rfl hl.1 rfl (Nat.le_of_ble_eq_true rfl) d_L_law_770 (fun H locs hw => ?_)
            refine W.eq (g2 := F0 m 773 ls [.int r_376]) rfl ?_
            refine lv_iload hx hb d_L_law_773 (lv_at hl 1 rfl) ?_
            refine lv_icmp_eq (tgt := 780) hx hb d_L_law_775 (by decide) (fun _ => ?_) (fun c9 => absurd hc139 c9)
            refine lv_iload hx hb d_L_law_780 (lv_at hl 1 rfl) ?_
            refine lv_if_ne (tgt := 797) hx hb d_L_law_782 (by decide) (fun _ => ?_) (fun c9 => absurd c9 hc140)
            exact w9 p e s m args below meth c A H locs ls F hX hw (lv_sub hl [2, 3, 4, 5, 6] rfl)
        · have k := k.2 hc139
          obtain ⟨rv, v9, hK, hle_u_375, w9⟩ := hE778 u_375 k
          have hle_u_373 : x_le u_373 v9 := (hM137.1).tr hle_u_375
          have hle_u_370 : x_le u_370 v9 := (hM135.1).tr hle_u_373
          have hle_u : x_le u v9 := (hM133.1).tr hle_u_370
          refine ⟨rv, v9, hK, hle_u, ?_⟩
          intro p e s m args below meth c A H locs ls F hX hw hl
          obtain ⟨⟨hx, hb, hml, hown, hts⟩, hr, hlocks, hmn⟩ := id F
          refine lv_iload hx hb d_L_law_23 (lv_at hl 4 rfl) ?_
          refine lv_aload_n hx hb d_L_law_25 rfl (lv_at hl 0 rfl) ?_
          refine xr_slen hx hb hX hw d_L_law_26 ?_
          refine lv_iconst (v := 5) hx hb d_L_law_27 (by decide) ?_
          refine lv_isub hx hb d_L_law_28 ?_
          refine lv_icmp_gt (tgt := 1385) hx hb d_L_law_29 (by decide) (fun c9 => absurd c9 hc2) (fun _ => ?_)
          refine lv_aload_n hx hb d_L_law_32 rfl (lv_at hl 0 rfl) ?_
          refine lv_iload hx hb d_L_law_33 (lv_at hl 4 rfl) ?_
          refine xr_sld hx hb hX hw h3 d_L_law_35 ?_
          refine lv_bipush (v := 31) hx hb d_L_law_36 (by decide) ?_
          refine lv_iand hx hb d_L_law_38 ?_
          refine lv_tableIn (off := 705) (tgt := 744) hx hb d_L_law_39 (by rw [hc13]; decide) (by rw [hc13]; decide) (by rw [hc13]; rfl) (by decide) ?_
          refine lv_aload_n hx hb d_L_law_744 rfl (lv_at hl 1 rfl) ?_
          refine lv_aload_n hx hb d_L_law_745 rfl (lv_at hl 0 rfl) ?_
          refine lv_iload hx hb d_L_law_746 (lv_at hl 4 rfl) ?_
          refine lv_iconst (v := 1) hx hb d_L_law_748 (by decide) ?_
          refine lv_iadd hx hb d_L_law_749 ?_
          refine xr_sld hx hb hX hw h132 d_L_law_750 ?_
          refine lv_aload_n hx hb d_L_law_751 rfl (lv_at hl 3 rfl) ?_
          refine xr_cSW (n := 3) (hh := hh_L_sift) (As := [.ref x1, .int (xs (x4 + (1 : Int32)).toNatClampNeg), .ref x3]) (rest := []) ⟨hx, hb, hml, hown, hts⟩ hw hM133 hle_u_370 (xgood w_738) List.mem_cons_self (hts _ (xm w_0)) (hts _ (xm w_736)) (hts _ (xm w_737)) ⟨by decide, by decide, by decide +kernel⟩ ⟨Nat.le_of_ble_eq_true rfl, Nat.le_of_ble_eq_true rfl⟩ ⟨Nat.le_refl _, Nat.le_refl _⟩ rfl hl.1 rfl (Nat.le_of_ble_eq_true rfl) d_L_law_752 (fun H locs hw => ?_)
          refine W.eq (g2 := F0 m 755 ls [.int r_371]) rfl ?_
          refine lv_istore (lv' := [(5, .int r_371), (0, .ref x0), (1, .ref x1), (2, .ref x2), (3, .ref x3), (4, .int x4)]) hx hb d_L_law_755 hl (by decide) rfl (fun ls hl => ?_)
          refine lv_aload_n hx hb d_L_law_757 rfl (lv_at hl 3 rfl) ?_
          refine lv_aload_n hx hb d_L_law_758 rfl (lv_at hl 1 rfl) ?_
          refine lv_iload hx hb d_L_law_759 (lv_at hl 5 rfl) ?_
          refine lv_iconst (v := 1) hx hb d_L_law_761 (by decide) ?_
          refine lv_iadd hx hb d_L_law_762 ?_
          refine xr_sld hx hb hX hw h134 d_L_law_763 ?_
          refine xr_cV (As := [.int (xs (x4 + (1 : Int32)).toNatClampNeg)]) (rest := []) ⟨hx, hb, hml, hown, hts⟩ hw hM135 hle_u_373 (fun _ _ => ⟨callB_of 1 hts (xgood w_1016) rfl rfl rfl (hts _ (xm w_8)) (hts _ (xm w_1013)) ⟨by decide, by decide, by decide +kernel⟩ ⟨Nat.le_of_ble_eq_true rfl, Nat.le_of_ble_eq_true rfl⟩, (hts _ (xm w_1014)), (hts _ (xm w_1015))⟩) (qc := (R_M, F_M, 14)) rfl rfl h136 rfl hl.1 rfl (Nat.le_of_ble_eq_true rfl) d_L_law_764 (fun H locs hw => ?_)
          refine W.eq (g2 := F0 m 767 ls [.int r_374]) rfl ?_
          refine lv_istore (lv' := [(6, .int r_374), (5, .int r_371), (0, .ref x0), (1, .ref x1), (2, .ref x2), (3, .ref x3), (4, .int x4)]) hx hb d_L_law_767 hl (by decide) rfl (fun ls hl => ?_)
          refine lv_aload_n hx hb d_L_law_769 rfl (lv_at hl 4 rfl) ?_
          refine xr_cV (As := []) (rest := []) ⟨hx, hb, hml, hown, hts⟩ hw hM137 hle_u_375 (fun _ _ => ⟨callB_of 0 hts (xgood w_915) rfl rfl rfl (hts _ (xm w_8)) (hts _ (xm w_912)) ⟨by decide, by decide, by decide +kernel⟩ ⟨Nat.le_of_ble_eq_true rfl, Nat.le_of_ble_eq_true rfl⟩, (hts _ (xm w_913)), (hts _ (xm w_914))⟩) (qc := (R_M, F_M, 14)) rfl rfl h138 rfl hl.1 rfl (Nat.le_of_ble_eq_true rfl) d_L_law_770 (fun H locs hw => ?_)
          refine W.eq (g2 := F0 m 773 ls [.int r_376]) rfl ?_
          refine lv_iload hx hb d_L_law_773 (lv_at hl 1 rfl) ?_
          refine lv_icmp_eq (tgt := 780) hx hb d_L_law_775 (by decide) (fun c9 => absurd c9 hc139) (fun _ => ?_)
          exact w9 p e s m args below meth c A H locs ls F hX hw (lv_sub hl [] rfl)
      by_cases hc14 : ((xs x4.toNatClampNeg) &&& (31 : Int32)) = 10
      · have k := k.2.2.2.2.2.2.2.2.2.2.1 hc14
        obtain ⟨h144, k⟩ := k
        obtain ⟨_, u_378, ⟨r_379, rfl, k⟩, hM143⟩ := c_H_siftAll l Z x1 u _ k
        obtain ⟨h146, k⟩ := k
        obtain ⟨_, u_380, ⟨r_381, rfl, k⟩, hM145⟩ := c_M_siftAll l Z x2 u_378 _ k
        by_cases hc147 : r_379 = r_381
        · have k := k.1 hc147
          obtain ⟨rv, v9, hK, hle_u_380, w9⟩ := t_L_law_J1379 l Z u0 sL xs x0 x1 x2 x3 x4 u_380 ih hE175 hE223 hE295 hE367 hE439 hE511 hE599 hE671 hE722 hE739 hE778 hE795 hE811 hE847 hE864 hE903 hE920 hE959 hE976 hE1027 hE1051 hE1090 hE1107 hE1146 hE1163 hE1214 hE1238 hE1301 hE1318 hE1357 hE1374 hE1385 k
          have hle_u_378 : x_le u_378 v9 := (hM145.1).tr hle_u_380
          have hle_u : x_le u v9 := (hM143.1).tr hle_u_378
          refine ⟨rv, v9, hK, hle_u, ?_⟩
          intro p e s m args below meth c A H locs ls F hX hw hl
          obtain ⟨⟨hx, hb, hml, hown, hts⟩, hr, hlocks, hmn⟩ := id F
          refine lv_iload hx hb d_L_law_23 (lv_at hl 4 rfl) ?_
          refine lv_aload_n hx hb d_L_law_25 rfl (lv_at hl 0 rfl) ?_
          refine xr_slen hx hb hX hw d_L_law_26 ?_
          refine lv_iconst (v := 5) hx hb d_L_law_27 (by decide) ?_
          refine lv_isub hx hb d_L_law_28 ?_
          refine lv_icmp_gt (tgt := 1385) hx hb d_L_law_29 (by decide) (fun c9 => absurd c9 hc2) (fun _ => ?_)
          refine lv_aload_n hx hb d_L_law_32 rfl (lv_at hl 0 rfl) ?_
          refine lv_iload hx hb d_L_law_33 (lv_at hl 4 rfl) ?_
          refine xr_sld hx hb hX hw h3 d_L_law_35 ?_
          refine lv_bipush (v := 31) hx hb d_L_law_36 (by decide) ?_
          refine lv_iand hx hb d_L_law_38 ?_
          refine lv_tableIn (off := 761) (tgt := 800) hx hb d_L_law_39 (by rw [hc14]; decide) (by rw [hc14]; decide) (by rw [hc14]; rfl) (by decide) ?_
          refine lv_aload_n hx hb d_L_law_800 rfl (lv_at hl 1 rfl) ?_
          refine xr_cV (As := []) (rest := []) ⟨hx, hb, hml, hown, hts⟩ hw hM143 hle_u_378 (fun _ _ => ⟨callB_of 0 hts (xgood w_241) rfl rfl rfl (hts _ (xm w_1)) (hts _ (xm w_238)) ⟨by decide, by decide, by decide +kernel⟩ ⟨Nat.le_of_ble_eq_true rfl, Nat.le_of_ble_eq_true rfl⟩, (hts _ (xm w_239)), (hts _ (xm w_240))⟩) (qc := (R_H, F_H, 2)) rfl rfl h144 rfl hl.1 rfl (Nat.le_of_ble_eq_true rfl) d_L_law_801 (fun H locs hw => ?_)
          refine W.eq (g2 := F0 m 804 ls [.int r_379]) rfl ?_
          refine lv_aload_n hx hb d_L_law_804 rfl (lv_at hl 2 rfl) ?_
          refine xr_cV (As := []) (rest := [.int r_379]) ⟨hx, hb, hml, hown, hts⟩ hw hM145 hle_u_380 (fun _ _ => ⟨callB_of 0 hts (xgood w_1024) rfl rfl rfl (hts _ (xm w_8)) (hts _ (xm w_1021)) ⟨by decide, by decide, by decide +kernel⟩ ⟨Nat.le_of_ble_eq_true rfl, Nat.le_of_ble_eq_true rfl⟩, (hts _ (xm w_1022)), (hts _ (xm w_1023))⟩) (qc := (R_M, F_M, 14)) rfl rfl h146 rfl hl.1 rfl (Nat.le_of_ble_eq_true rfl) d_L_law_805 (fun H locs hw => ?_)
          refine W.eq (g2 := F0 m 808 ls [.int r_381, .int r_379]) rfl ?_
          refine lv_icmp_eq (tgt := 1379) hx hb d_L_law_808 (by decide) (fun _ => ?_) (fun c9 => absurd hc147 c9)
          exact w9 p e s m args below meth c A H locs ls F hX hw (lv_sub hl [0, 1, 2, 3, 4] rfl)
        · have k := k.2 hc147
          obtain ⟨rv, v9, hK, hle_u_380, w9⟩ := hE811 u_380 k
          have hle_u_378 : x_le u_378 v9 := (hM145.1).tr hle_u_380
          have hle_u : x_le u v9 := (hM143.1).tr hle_u_378
          refine ⟨rv, v9, hK, hle_u, ?_⟩
          intro p e s m args below meth c A H locs ls F hX hw hl
          obtain ⟨⟨hx, hb, hml, hown, hts⟩, hr, hlocks, hmn⟩ := id F
          refine lv_iload hx hb d_L_law_23 (lv_at hl 4 rfl) ?_
          refine lv_aload_n hx hb d_L_law_25 rfl (lv_at hl 0 rfl) ?_
          refine xr_slen hx hb hX hw d_L_law_26 ?_
          refine lv_iconst (v := 5) hx hb d_L_law_27 (by decide) ?_
          refine lv_isub hx hb d_L_law_28 ?_
          refine lv_icmp_gt (tgt := 1385) hx hb d_L_law_29 (by decide) (fun c9 => absurd c9 hc2) (fun _ => ?_)
          refine lv_aload_n hx hb d_L_law_32 rfl (lv_at hl 0 rfl) ?_
          refine lv_iload hx hb d_L_law_33 (lv_at hl 4 rfl) ?_
          refine xr_sld hx hb hX hw h3 d_L_law_35 ?_
          refine lv_bipush (v := 31) hx hb d_L_law_36 (by decide) ?_
          refine lv_iand hx hb d_L_law_38 ?_
          refine lv_tableIn (off := 761) (tgt := 800) hx hb d_L_law_39 (by rw [hc14]; decide) (by rw [hc14]; decide) (by rw [hc14]; rfl) (by decide) ?_
          refine lv_aload_n hx hb d_L_law_800 rfl (lv_at hl 1 rfl) ?_
          refine xr_cV (As := []) (rest := []) ⟨hx, hb, hml, hown, hts⟩ hw hM143 hle_u_378 (fun _ _ => ⟨callB_of 0 hts (xgood w_241) rfl rfl rfl (hts _ (xm w_1)) (hts _ (xm w_238)) ⟨by decide, by decide, by decide +kernel⟩ ⟨Nat.le_of_ble_eq_true rfl, Nat.le_of_ble_eq_true rfl⟩, (hts _ (xm w_239)), (hts _ (xm w_240))⟩) (qc := (R_H, F_H, 2)) rfl rfl h144 rfl hl.1 rfl (Nat.le_of_ble_eq_true rfl) d_L_law_801 (fun H locs hw => ?_)
          refine W.eq (g2 := F0 m 804 ls [.int r_379]) rfl ?_
          refine lv_aload_n hx hb d_L_law_804 rfl (lv_at hl 2 rfl) ?_
          refine xr_cV (As := []) (rest := [.int r_379]) ⟨hx, hb, hml, hown, hts⟩ hw hM145 hle_u_380 (fun _ _ => ⟨callB_of 0 hts (xgood w_1024) rfl rfl rfl (hts _ (xm w_8)) (hts _ (xm w_1021)) ⟨by decide, by decide, by decide +kernel⟩ ⟨Nat.le_of_ble_eq_true rfl, Nat.le_of_ble_eq_true rfl⟩, (hts _ (xm w_1022)), (hts _ (xm w_1023))⟩) (qc := (R_M, F_M, 14)) rfl rfl h146 rfl hl.1 rfl (Nat.le_of_ble_eq_true rfl) d_L_law_805 (fun H locs hw => ?_)
          refine W.eq (g2 := F0 m 808 ls [.int r_381, .int r_379]) rfl ?_
          refine lv_icmp_eq (tgt := 1379) hx hb d_L_law_808 (by decide) (fun c9 => absurd c9 hc147) (fun _ => ?_)
          exact w9 p e s m args below meth c A H locs ls F hX hw (lv_sub hl [] rfl)
      by_cases hc15 : ((xs x4.toNatClampNeg) &&& (31 : Int32)) = 11
      · have k := k.2.2.2.2.2.2.2.2.2.2.2.1 hc15
        obtain ⟨h148, k⟩ := k
        obtain ⟨_, u_383, ⟨r_384, rfl, k⟩, hM149⟩ := c_L_order l Z x1 (xs (x4 + (1 : Int32)).toNatClampNeg) x3 u _ k
        obtain ⟨h150, k⟩ := k
        obtain ⟨h152, k⟩ := k
        obtain ⟨_, u_386, ⟨r_387, rfl, k⟩, hM151⟩ := c_M_order l Z x2 (xs (x4 + (1 : Int32)).toNatClampNeg) u_383 _ k
        obtain ⟨h154, k⟩ := k
        obtain ⟨_, u_388, ⟨r_389, rfl, k⟩, hM153⟩ := c_M_thrown l Z x2 u_386 _ k
        by_cases hc155 : r_389 = r_384
        · have k := k.1 hc155
          by_cases hc156 : r_384 = 0
          · have k := k.2 hc156
            obtain ⟨z_390, h157, k⟩ := k
            by_cases hc158 : (lg_cmp z_390 (r_387.toInt64)) = 0
            · have k := k.1 hc158
              obtain ⟨rv, v9, hK, hle_u_388, w9⟩ := t_L_law_J866 l Z u0 sL xs x0 x1 x2 x3 x4 u_388 ih hE175 hE223 hE295 hE367 hE439 hE511 hE599 hE671 hE722 hE739 hE778 hE795 hE811 hE847 hE864 hE903 hE920 hE959 hE976 hE1027 hE1051 hE1090 hE1107 hE1146 hE1163 hE1214 hE1238 hE1301 hE1318 hE1357 hE1374 hE1385 k
              have hle_u_386 : x_le u_386 v9 := (hM153.1).tr hle_u_388
              have hle_u_383 : x_le u_383 v9 := (hM151.1).tr hle_u_386
              have hle_u : x_le u v9 := (hM149.1).tr hle_u_383
              refine ⟨rv, v9, hK, hle_u, ?_⟩
              intro p e s m args below meth c A H locs ls F hX hw hl
              obtain ⟨⟨hx, hb, hml, hown, hts⟩, hr, hlocks, hmn⟩ := id F
              refine lv_iload hx hb d_L_law_23 (lv_at hl 4 rfl) ?_
              refine lv_aload_n hx hb d_L_law_25 rfl (lv_at hl 0 rfl) ?_
              refine xr_slen hx hb hX hw d_L_law_26 ?_
              refine lv_iconst (v := 5) hx hb d_L_law_27 (by decide) ?_
              refine lv_isub hx hb d_L_law_28 ?_
              refine lv_icmp_gt (tgt := 1385) hx hb d_L_law_29 (by decide) (fun c9 => absurd c9 hc2) (fun _ => ?_)
              refine lv_aload_n hx hb d_L_law_32 rfl (lv_at hl 0 rfl) ?_
              refine lv_iload hx hb d_L_law_33 (lv_at hl 4 rfl) ?_
              refine xr_sld hx hb hX hw h3 d_L_law_35 ?_
              refine lv_bipush (v := 31) hx hb d_L_law_36 (by decide) ?_
              refine lv_iand hx hb d_L_law_38 ?_
              refine lv_tableIn (off := 774) (tgt := 813) hx hb d_L_law_39 (by rw [hc15]; decide) (by rw [hc15]; decide) (by rw [hc15]; rfl) (by decide) ?_
              refine lv_aload_n hx hb d_L_law_813 rfl (lv_at hl 1 rfl) ?_
              refine lv_aload_n hx hb d_L_law_814 rfl (lv_at hl 0 rfl) ?_
              refine lv_iload hx hb d_L_law_815 (lv_at hl 4 rfl) ?_
              refine lv_iconst (v := 1) hx hb d_L_law_817 (by decide) ?_
              refine lv_iadd hx hb d_L_law_818 ?_
              refine xr_sld hx hb hX hw h148 d_L_law_819 ?_
              refine lv_aload_n hx hb d_L_law_820 rfl (lv_at hl 3 rfl) ?_
              refine xr_cSW (n := 3) (hh := hh_L_order) (As := [.ref x1, .int (xs (x4 + (1 : Int32)).toNatClampNeg), .ref x3]) (rest := []) ⟨hx, hb, hml, hown, hts⟩ hw hM149 hle_u_383 (xgood w_745) List.mem_cons_self (hts _ (xm w_0)) (hts _ (xm w_743)) (hts _ (xm w_744)) ⟨by decide, by decide, by decide +kernel⟩ ⟨Nat.le_of_ble_eq_true rfl, Nat.le_of_ble_eq_true rfl⟩ ⟨Nat.le_refl _, Nat.le_refl _⟩ rfl hl.1 rfl (Nat.le_of_ble_eq_true rfl) d_L_law_821 (fun H locs hw => ?_)
              refine W.eq (g2 := F0 m 824 ls [.int r_384]) rfl ?_
              refine lv_istore (lv' := [(5, .int r_384), (0, .ref x0), (1, .ref x1), (2, .ref x2), (3, .ref x3), (4, .int x4)]) hx hb d_L_law_824 hl (by decide) rfl (fun ls hl => ?_)
              refine lv_aload_n hx hb d_L_law_826 rfl (lv_at hl 3 rfl) ?_
              refine lv_aload_n hx hb d_L_law_827 rfl (lv_at hl 1 rfl) ?_
              refine lv_iload hx hb d_L_law_828 (lv_at hl 5 rfl) ?_
              refine lv_iconst (v := 1) hx hb d_L_law_830 (by decide) ?_
              refine lv_iadd hx hb d_L_law_831 ?_
              refine xr_sld hx hb hX hw h150 d_L_law_832 ?_
              refine xr_cV (As := [.int (xs (x4 + (1 : Int32)).toNatClampNeg)]) (rest := []) ⟨hx, hb, hml, hown, hts⟩ hw hM151 hle_u_386 (fun _ _ => ⟨callB_of 1 hts (xgood w_1028) rfl rfl rfl (hts _ (xm w_8)) (hts _ (xm w_1025)) ⟨by decide, by decide, by decide +kernel⟩ ⟨Nat.le_of_ble_eq_true rfl, Nat.le_of_ble_eq_true rfl⟩, (hts _ (xm w_1026)), (hts _ (xm w_1027))⟩) (qc := (R_M, F_M, 14)) rfl rfl h152 rfl hl.1 rfl (Nat.le_of_ble_eq_true rfl) d_L_law_833 (fun H locs hw => ?_)
              refine W.eq (g2 := F0 m 836 ls [.int r_387]) rfl ?_
              refine lv_istore (lv' := [(6, .int r_387), (5, .int r_384), (0, .ref x0), (1, .ref x1), (2, .ref x2), (3, .ref x3), (4, .int x4)]) hx hb d_L_law_836 hl (by decide) rfl (fun ls hl => ?_)
              refine lv_aload_n hx hb d_L_law_838 rfl (lv_at hl 4 rfl) ?_
              refine xr_cV (As := []) (rest := []) ⟨hx, hb, hml, hown, hts⟩ hw hM153 hle_u_388 (fun _ _ => ⟨callB_of 0 hts (xgood w_915) rfl rfl rfl (hts _ (xm w_8)) (hts _ (xm w_912)) ⟨by decide, by decide, by decide +kernel⟩ ⟨Nat.le_of_ble_eq_true rfl, Nat.le_of_ble_eq_true rfl⟩, (hts _ (xm w_913)), (hts _ (xm w_914))⟩) (qc := (R_M, F_M, 14)) rfl rfl h154 rfl hl.1 rfl (Nat.le_of_ble_eq_true rfl) d_L_law_839 (fun H locs hw => ?_)
              refine W.eq (g2 := F0 m 842 ls [.int r_389]) rfl ?_
              refine lv_iload hx hb d_L_law_842 (lv_at hl 1 rfl) ?_
              refine lv_icmp_eq (tgt := 849) hx hb d_L_law_844 (by decide) (fun _ => ?_) (fun c9 => absurd hc155 c9)
              refine lv_iload hx hb d_L_law_849 (lv_at hl 1 rfl) ?_
              refine lv_if_ne (tgt := 866) hx hb d_L_law_851 (by decide) (fun c9 => absurd hc156 c9) (fun _ => ?_)
              refine lv_aload_n hx hb d_L_law_854 rfl (lv_at hl 5 rfl) ?_
              refine lv_iconst (v := 0) hx hb d_L_law_855 (by decide) ?_
              refine xr_lald hx hb hw h157 d_L_law_856 ?_
              refine lv_iload hx hb d_L_law_857 (lv_at hl 0 rfl) ?_
              refine lv_i2l hx hb d_L_law_859 rfl ?_
              refine W.lcmp hx hb d_L_law_860 ?_
              refine lv_if_eq (tgt := 866) hx hb d_L_law_861 (by decide) (fun _ => ?_) (fun c9 => absurd hc158 c9)
              exact w9 p e s m args below meth c A H locs ls F hX hw (lv_sub hl [2, 3, 4, 5, 6] rfl)
            · have k := k.2 hc158
              obtain ⟨rv, v9, hK, hle_u_388, w9⟩ := hE864 u_388 k
              have hle_u_386 : x_le u_386 v9 := (hM153.1).tr hle_u_388
              have hle_u_383 : x_le u_383 v9 := (hM151.1).tr hle_u_386
              have hle_u : x_le u v9 := (hM149.1).tr hle_u_383
              refine ⟨rv, v9, hK, hle_u, ?_⟩
              intro p e s m args below meth c A H locs ls F hX hw hl
              obtain ⟨⟨hx, hb, hml, hown, hts⟩, hr, hlocks, hmn⟩ := id F
              refine lv_iload hx hb d_L_law_23 (lv_at hl 4 rfl) ?_
              refine lv_aload_n hx hb d_L_law_25 rfl (lv_at hl 0 rfl) ?_
              refine xr_slen hx hb hX hw d_L_law_26 ?_
              refine lv_iconst (v := 5) hx hb d_L_law_27 (by decide) ?_
              refine lv_isub hx hb d_L_law_28 ?_
              refine lv_icmp_gt (tgt := 1385) hx hb d_L_law_29 (by decide) (fun c9 => absurd c9 hc2) (fun _ => ?_)
              refine lv_aload_n hx hb d_L_law_32 rfl (lv_at hl 0 rfl) ?_
              refine lv_iload hx hb d_L_law_33 (lv_at hl 4 rfl) ?_
              refine xr_sld hx hb hX hw h3 d_L_law_35 ?_
              refine lv_bipush (v := 31) hx hb d_L_law_36 (by decide) ?_
              refine lv_iand hx hb d_L_law_38 ?_
              refine lv_tableIn (off := 774) (tgt := 813) hx hb d_L_law_39 (by rw [hc15]; decide) (by rw [hc15]; decide) (by rw [hc15]; rfl) (by decide) ?_
              refine lv_aload_n hx hb d_L_law_813 rfl (lv_at hl 1 rfl) ?_
              refine lv_aload_n hx hb d_L_law_814 rfl (lv_at hl 0 rfl) ?_
              refine lv_iload hx hb d_L_law_815 (lv_at hl 4 rfl) ?_
              refine lv_iconst (v := 1) hx hb d_L_law_817 (by decide) ?_
              refine lv_iadd hx hb d_L_law_818 ?_
              refine xr_sld hx hb hX hw h148 d_L_law_819 ?_
              refine lv_aload_n hx hb d_L_law_820 rfl (lv_at hl 3 rfl) ?_
              refine xr_cSW (n := 3) (hh := hh_L_order) (As := [.ref x1, .int (xs (x4 + (1 : Int32)).toNatClampNeg), .ref x3]) (rest := []) ⟨hx, hb, hml, hown, hts⟩ hw hM149 hle_u_383 (xgood w_745) List.mem_cons_self (hts _ (xm w_0)) (hts _ (xm w_743)) (hts _ (xm w_744)) ⟨by decide, by decide, by decide +kernel⟩ ⟨Nat.le_of_ble_eq_true rfl, Nat.le_of_ble_eq_true rfl⟩ ⟨Nat.le_refl _, Nat.le_refl _⟩ rfl hl.1 rfl (Nat.le_of_ble_eq_true rfl) d_L_law_821 (fun H locs hw => ?_)
              refine W.eq (g2 := F0 m 824 ls [.int r_384]) rfl ?_
              refine lv_istore (lv' := [(5, .int r_384), (0, .ref x0), (1, .ref x1), (2, .ref x2), (3, .ref x3), (4, .int x4)]) hx hb d_L_law_824 hl (by decide) rfl (fun ls hl => ?_)
              refine lv_aload_n hx hb d_L_law_826 rfl (lv_at hl 3 rfl) ?_
              refine lv_aload_n hx hb d_L_law_827 rfl (lv_at hl 1 rfl) ?_
              refine lv_iload hx hb d_L_law_828 (lv_at hl 5 rfl) ?_
              refine lv_iconst (v := 1) hx hb d_L_law_830 (by decide) ?_
              refine lv_iadd hx hb d_L_law_831 ?_
              refine xr_sld hx hb hX hw h150 d_L_law_832 ?_
              refine xr_cV (As := [.int (xs (x4 + (1 : Int32)).toNatClampNeg)]) (rest := []) ⟨hx, hb, hml, hown, hts⟩ hw hM151 hle_u_386 (fun _ _ => ⟨callB_of 1 hts (xgood w_1028) rfl rfl rfl (hts _ (xm w_8)) (hts _ (xm w_1025)) ⟨by decide, by decide, by decide +kernel⟩ ⟨Nat.le_of_ble_eq_true rfl, Nat.le_of_ble_eq_true rfl⟩, (hts _ (xm w_1026)), (hts _ (xm w_1027))⟩) (qc := (R_M, F_M, 14)) rfl rfl h152 rfl hl.1 rfl (Nat.le_of_ble_eq_true rfl) d_L_law_833 (fun H locs hw => ?_)
              refine W.eq (g2 := F0 m 836 ls [.int r_387]) rfl ?_
              refine lv_istore (lv' := [(6, .int r_387), (5, .int r_384), (0, .ref x0), (1, .ref x1), (2, .ref x2), (3, .ref x3), (4, .int x4)]) hx hb d_L_law_836 hl (by decide) rfl (fun ls hl => ?_)
              refine lv_aload_n hx hb d_L_law_838 rfl (lv_at hl 4 rfl) ?_
              refine xr_cV (As := []) (rest := []) ⟨hx, hb, hml, hown, hts⟩ hw hM153 hle_u_388 (fun _ _ => ⟨callB_of 0 hts (xgood w_915) rfl rfl rfl (hts _ (xm w_8)) (hts _ (xm w_912)) ⟨by decide, by decide, by decide +kernel⟩ ⟨Nat.le_of_ble_eq_true rfl, Nat.le_of_ble_eq_true rfl⟩, (hts _ (xm w_913)), (hts _ (xm w_914))⟩) (qc := (R_M, F_M, 14)) rfl rfl h154 rfl hl.1 rfl (Nat.le_of_ble_eq_true rfl) d_L_law_839 (fun H locs hw => ?_)
              refine W.eq (g2 := F0 m 842 ls [.int r_389]) rfl ?_
              refine lv_iload hx hb d_L_law_842 (lv_at hl 1 rfl) ?_
              refine lv_icmp_eq (tgt := 849) hx hb d_L_law_844 (by decide) (fun _ => ?_) (fun c9 => absurd hc155 c9)
              refine lv_iload hx hb d_L_law_849 (lv_at hl 1 rfl) ?_
              refine lv_if_ne (tgt := 866) hx hb d_L_law_851 (by decide) (fun c9 => absurd hc156 c9) (fun _ => ?_)
              refine lv_aload_n hx hb d_L_law_854 rfl (lv_at hl 5 rfl) ?_
              refine lv_iconst (v := 0) hx hb d_L_law_855 (by decide) ?_
              refine xr_lald hx hb hw h157 d_L_law_856 ?_
              refine lv_iload hx hb d_L_law_857 (lv_at hl 0 rfl) ?_
              refine lv_i2l hx hb d_L_law_859 rfl ?_
              refine W.lcmp hx hb d_L_law_860 ?_
              refine lv_if_eq (tgt := 866) hx hb d_L_law_861 (by decide) (fun c9 => absurd c9 hc158) (fun _ => ?_)
              exact w9 p e s m args below meth c A H locs ls F hX hw (lv_sub hl [] rfl)
          · have k := k.1 hc156
            obtain ⟨rv, v9, hK, hle_u_388, w9⟩ := t_L_law_J866 l Z u0 sL xs x0 x1 x2 x3 x4 u_388 ih hE175 hE223 hE295 hE367 hE439 hE511 hE599 hE671 hE722 hE739 hE778 hE795 hE811 hE847 hE864 hE903 hE920 hE959 hE976 hE1027 hE1051 hE1090 hE1107 hE1146 hE1163 hE1214 hE1238 hE1301 hE1318 hE1357 hE1374 hE1385 k
            have hle_u_386 : x_le u_386 v9 := (hM153.1).tr hle_u_388
            have hle_u_383 : x_le u_383 v9 := (hM151.1).tr hle_u_386
            have hle_u : x_le u v9 := (hM149.1).tr hle_u_383
            refine ⟨rv, v9, hK, hle_u, ?_⟩
            intro p e s m args below meth c A H locs ls F hX hw hl
            obtain ⟨⟨hx, hb, hml, hown, hts⟩, hr, hlocks, hmn⟩ := id F
            refine lv_iload hx hb d_L_law_23 (lv_at hl 4 rfl) ?_
            refine lv_aload_n hx hb d_L_law_25 rfl (lv_at hl 0 rfl) ?_
            refine xr_slen hx hb hX hw d_L_law_26 ?_
            refine lv_iconst (v := 5) hx hb d_L_law_27 (by decide) ?_
            refine lv_isub hx hb d_L_law_28 ?_
            refine lv_icmp_gt (tgt := 1385) hx hb d_L_law_29 (by decide) (fun c9 => absurd c9 hc2) (fun _ => ?_)
            refine lv_aload_n hx hb d_L_law_32 rfl (lv_at hl 0 rfl) ?_
            refine lv_iload hx hb d_L_law_33 (lv_at hl 4 rfl) ?_
            refine xr_sld hx hb hX hw h3 d_L_law_35 ?_
            refine lv_bipush (v := 31) hx hb d_L_law_36 (by decide) ?_
            refine lv_iand hx hb d_L_law_38 ?_
            refine lv_tableIn (off := 774) (tgt := 813) hx hb d_L_law_39 (by rw [hc15]; decide) (by rw [hc15]; decide) (by rw [hc15]; rfl) (by decide) ?_
            refine lv_aload_n hx hb d_L_law_813 rfl (lv_at hl 1 rfl) ?_
            refine lv_aload_n hx hb d_L_law_814 rfl (lv_at hl 0 rfl) ?_
            refine lv_iload hx hb d_L_law_815 (lv_at hl 4 rfl) ?_
            refine lv_iconst (v := 1) hx hb d_L_law_817 (by decide) ?_
            refine lv_iadd hx hb d_L_law_818 ?_
            refine xr_sld hx hb hX hw h148 d_L_law_819 ?_
            refine lv_aload_n hx hb d_L_law_820 rfl (lv_at hl 3 rfl) ?_
            refine xr_cSW (n := 3) (hh := hh_L_order) (As := [.ref x1, .int (xs (x4 + (1 : Int32)).toNatClampNeg), .ref x3]) (rest := []) ⟨hx, hb, hml, hown, hts⟩ hw hM149 hle_u_383 (xgood w_745) List.mem_cons_self (hts _ (xm w_0)) (hts _ (xm w_743)) (hts _ (xm w_744)) ⟨by decide, by decide, by decide +kernel⟩ ⟨Nat.le_of_ble_eq_true rfl, Nat.le_of_ble_eq_true rfl⟩ ⟨Nat.le_refl _, Nat.le_refl _⟩ rfl hl.1 rfl (Nat.le_of_ble_eq_true rfl) d_L_law_821 (fun H locs hw => ?_)
            refine W.eq (g2 := F0 m 824 ls [.int r_384]) rfl ?_
            refine lv_istore (lv' := [(5, .int r_384), (0, .ref x0), (1, .ref x1), (2, .ref x2), (3, .ref x3), (4, .int x4)]) hx hb d_L_law_824 hl (by decide) rfl (fun ls hl => ?_)
            refine lv_aload_n hx hb d_L_law_826 rfl (lv_at hl 3 rfl) ?_
            refine lv_aload_n hx hb d_L_law_827 rfl (lv_at hl 1 rfl) ?_
            refine lv_iload hx hb d_L_law_828 (lv_at hl 5 rfl) ?_
            refine lv_iconst (v := 1) hx hb d_L_law_830 (by decide) ?_
            refine lv_iadd hx hb d_L_law_831 ?_
            refine xr_sld hx hb hX hw h150 d_L_law_832 ?_
            refine xr_cV (As := [.int (xs (x4 + (1 : Int32)).toNatClampNeg)]) (rest := []) ⟨hx, hb, hml, hown, hts⟩ hw hM151 hle_u_386 (fun _ _ => ⟨callB_of 1 hts (xgood w_1028) rfl rfl rfl (hts _ (xm w_8)) (hts _ (xm w_1025)) ⟨by decide, by decide, by decide +kernel⟩ ⟨Nat.le_of_ble_eq_true rfl, Nat.le_of_ble_eq_true rfl⟩, (hts _ (xm w_1026)), (hts _ (xm w_1027))⟩) (qc := (R_M, F_M, 14)) rfl rfl h152 rfl hl.1 rfl (Nat.le_of_ble_eq_true rfl) d_L_law_833 (fun H locs hw => ?_)
            refine W.eq (g2 := F0 m 836 ls [.int r_387]) rfl ?_
            refine lv_istore (lv' := [(6, .int r_387), (5, .int r_384), (0, .ref x0), (1, .ref x1), (2, .ref x2), (3, .ref x3), (4, .int x4)]) hx hb d_L_law_836 hl (by decide) rfl (fun ls hl => ?_)
            refine lv_aload_n hx hb d_L_law_838 rfl (lv_at hl 4 rfl) ?_
            refine xr_cV (As := []) (rest := []) ⟨hx, hb, hml, hown, hts⟩ hw hM153 hle_u_388 (fun _ _ => ⟨callB_of 0 hts (xgood w_915) rfl rfl rfl (hts _ (xm w_8)) (hts _ (xm w_912)) ⟨by decide, by decide, by decide +kernel⟩ ⟨Nat.le_of_ble_eq_true rfl, Nat.le_of_ble_eq_true rfl⟩, (hts _ (xm w_913)), (hts _ (xm w_914))⟩) (qc := (R_M, F_M, 14)) rfl rfl h154 rfl hl.1 rfl (Nat.le_of_ble_eq_true rfl) d_L_law_839 (fun H locs hw => ?_)
            refine W.eq (g2 := F0 m 842 ls [.int r_389]) rfl ?_
            refine lv_iload hx hb d_L_law_842 (lv_at hl 1 rfl) ?_
            refine lv_icmp_eq (tgt := 849) hx hb d_L_law_844 (by decide) (fun _ => ?_) (fun c9 => absurd hc155 c9)
            refine lv_iload hx hb d_L_law_849 (lv_at hl 1 rfl) ?_
            refine lv_if_ne (tgt := 866) hx hb d_L_law_851 (by decide) (fun _ => ?_) (fun c9 => absurd c9 hc156)
            exact w9 p e s m args below meth c A H locs ls F hX hw (lv_sub hl [2, 3, 4, 5, 6] rfl)
        · have k := k.2 hc155
          obtain ⟨rv, v9, hK, hle_u_388, w9⟩ := hE847 u_388 k
          have hle_u_386 : x_le u_386 v9 := (hM153.1).tr hle_u_388
          have hle_u_383 : x_le u_383 v9 := (hM151.1).tr hle_u_386
          have hle_u : x_le u v9 := (hM149.1).tr hle_u_383
          refine ⟨rv, v9, hK, hle_u, ?_⟩
          intro p e s m args below meth c A H locs ls F hX hw hl
          obtain ⟨⟨hx, hb, hml, hown, hts⟩, hr, hlocks, hmn⟩ := id F
          refine lv_iload hx hb d_L_law_23 (lv_at hl 4 rfl) ?_
          refine lv_aload_n hx hb d_L_law_25 rfl (lv_at hl 0 rfl) ?_
          refine xr_slen hx hb hX hw d_L_law_26 ?_
          refine lv_iconst (v := 5) hx hb d_L_law_27 (by decide) ?_
          refine lv_isub hx hb d_L_law_28 ?_
          refine lv_icmp_gt (tgt := 1385) hx hb d_L_law_29 (by decide) (fun c9 => absurd c9 hc2) (fun _ => ?_)
          refine lv_aload_n hx hb d_L_law_32 rfl (lv_at hl 0 rfl) ?_
          refine lv_iload hx hb d_L_law_33 (lv_at hl 4 rfl) ?_
          refine xr_sld hx hb hX hw h3 d_L_law_35 ?_
          refine lv_bipush (v := 31) hx hb d_L_law_36 (by decide) ?_
          refine lv_iand hx hb d_L_law_38 ?_
          refine lv_tableIn (off := 774) (tgt := 813) hx hb d_L_law_39 (by rw [hc15]; decide) (by rw [hc15]; decide) (by rw [hc15]; rfl) (by decide) ?_
          refine lv_aload_n hx hb d_L_law_813 rfl (lv_at hl 1 rfl) ?_
          refine lv_aload_n hx hb d_L_law_814 rfl (lv_at hl 0 rfl) ?_
          refine lv_iload hx hb d_L_law_815 (lv_at hl 4 rfl) ?_
          refine lv_iconst (v := 1) hx hb d_L_law_817 (by decide) ?_
          refine lv_iadd hx hb d_L_law_818 ?_
          refine xr_sld hx hb hX hw h148 d_L_law_819 ?_
          refine lv_aload_n hx hb d_L_law_820 rfl (lv_at hl 3 rfl) ?_
          refine xr_cSW (n := 3) (hh := hh_L_order) (As := [.ref x1, .int (xs (x4 + (1 : Int32)).toNatClampNeg), .ref x3]) (rest := []) ⟨hx, hb, hml, hown, hts⟩ hw hM149 hle_u_383 (xgood w_745) List.mem_cons_self (hts _ (xm w_0)) (hts _ (xm w_743)) (hts _ (xm w_744)) ⟨by decide, by decide, by decide +kernel⟩ ⟨Nat.le_of_ble_eq_true rfl, Nat.le_of_ble_eq_true rfl⟩ ⟨Nat.le_refl _, Nat.le_refl _⟩ rfl hl.1 rfl (Nat.le_of_ble_eq_true rfl) d_L_law_821 (fun H locs hw => ?_)
          refine W.eq (g2 := F0 m 824 ls [.int r_384]) rfl ?_
          refine lv_istore (lv' := [(5, .int r_384), (0, .ref x0), (1, .ref x1), (2, .ref x2), (3, .ref x3), (4, .int x4)]) hx hb d_L_law_824 hl (by decide) rfl (fun ls hl => ?_)
          refine lv_aload_n hx hb d_L_law_826 rfl (lv_at hl 3 rfl) ?_
          refine lv_aload_n hx hb d_L_law_827 rfl (lv_at hl 1 rfl) ?_
          refine lv_iload hx hb d_L_law_828 (lv_at hl 5 rfl) ?_
          refine lv_iconst (v := 1) hx hb d_L_law_830 (by decide) ?_
          refine lv_iadd hx hb d_L_law_831 ?_
          refine xr_sld hx hb hX hw h150 d_L_law_832 ?_
          refine xr_cV (As := [.int (xs (x4 + (1 : Int32)).toNatClampNeg)]) (rest := []) ⟨hx, hb, hml, hown, hts⟩ hw hM151 hle_u_386 (fun _ _ => ⟨callB_of 1 hts (xgood w_1028) rfl rfl rfl (hts _ (xm w_8)) (hts _ (xm w_1025)) ⟨by decide, by decide, by decide +kernel⟩ ⟨Nat.le_of_ble_eq_true rfl, Nat.le_of_ble_eq_true rfl⟩, (hts _ (xm w_1026)), (hts _ (xm w_1027))⟩) (qc := (R_M, F_M, 14)) rfl rfl h152 rfl hl.1 rfl (Nat.le_of_ble_eq_true rfl) d_L_law_833 (fun H locs hw => ?_)
          refine W.eq (g2 := F0 m 836 ls [.int r_387]) rfl ?_
          refine lv_istore (lv' := [(6, .int r_387), (5, .int r_384), (0, .ref x0), (1, .ref x1), (2, .ref x2), (3, .ref x3), (4, .int x4)]) hx hb d_L_law_836 hl (by decide) rfl (fun ls hl => ?_)
          refine lv_aload_n hx hb d_L_law_838 rfl (lv_at hl 4 rfl) ?_
          refine xr_cV (As := []) (rest := []) ⟨hx, hb, hml, hown, hts⟩ hw hM153 hle_u_388 (fun _ _ => ⟨callB_of 0 hts (xgood w_915) rfl rfl rfl (hts _ (xm w_8)) (hts _ (xm w_912)) ⟨by decide, by decide, by decide +kernel⟩ ⟨Nat.le_of_ble_eq_true rfl, Nat.le_of_ble_eq_true rfl⟩, (hts _ (xm w_913)), (hts _ (xm w_914))⟩) (qc := (R_M, F_M, 14)) rfl rfl h154 rfl hl.1 rfl (Nat.le_of_ble_eq_true rfl) d_L_law_839 (fun H locs hw => ?_)
          refine W.eq (g2 := F0 m 842 ls [.int r_389]) rfl ?_
          refine lv_iload hx hb d_L_law_842 (lv_at hl 1 rfl) ?_
          refine lv_icmp_eq (tgt := 849) hx hb d_L_law_844 (by decide) (fun c9 => absurd c9 hc155) (fun _ => ?_)
          exact w9 p e s m args below meth c A H locs ls F hX hw (lv_sub hl [] rfl)
      by_cases hc16 : ((xs x4.toNatClampNeg) &&& (31 : Int32)) = 12
      · have k := k.2.2.2.2.2.2.2.2.2.2.2.2.1 hc16
        obtain ⟨h159, k⟩ := k
        obtain ⟨_, u_392, ⟨r_393, rfl, k⟩, hM160⟩ := c_L_size l Z x1 (xs (x4 + (1 : Int32)).toNatClampNeg) x3 u _ k
        obtain ⟨h161, k⟩ := k
        obtain ⟨h163, k⟩ := k
        obtain ⟨_, u_395, ⟨r_396, rfl, k⟩, hM162⟩ := c_M_size l Z x2 (xs (x4 + (1 : Int32)).toNatClampNeg) u_392 _ k
        obtain ⟨h165, k⟩ := k
        obtain ⟨_, u_397, ⟨r_398, rfl, k⟩, hM164⟩ := c_M_thrown l Z x2 u_395 _ k
        by_cases hc166 : r_398 = r_393
        · have k := k.1 hc166
          by_cases hc167 : r_393 = 0
          · have k := k.2 hc167
            obtain ⟨z_399, h168, k⟩ := k
            by_cases hc169 : (lg_cmp z_399 (r_396.toInt64)) = 0
            · have k := k.1 hc169
              obtain ⟨rv, v9, hK, hle_u_397, w9⟩ := t_L_law_J922 l Z u0 sL xs x0 x1 x2 x3 x4 u_397 ih hE175 hE223 hE295 hE367 hE439 hE511 hE599 hE671 hE722 hE739 hE778 hE795 hE811 hE847 hE864 hE903 hE920 hE959 hE976 hE1027 hE1051 hE1090 hE1107 hE1146 hE1163 hE1214 hE1238 hE1301 hE1318 hE1357 hE1374 hE1385 k
              have hle_u_395 : x_le u_395 v9 := (hM164.1).tr hle_u_397
              have hle_u_392 : x_le u_392 v9 := (hM162.1).tr hle_u_395
              have hle_u : x_le u v9 := (hM160.1).tr hle_u_392
              refine ⟨rv, v9, hK, hle_u, ?_⟩
              intro p e s m args below meth c A H locs ls F hX hw hl
              obtain ⟨⟨hx, hb, hml, hown, hts⟩, hr, hlocks, hmn⟩ := id F
              refine lv_iload hx hb d_L_law_23 (lv_at hl 4 rfl) ?_
              refine lv_aload_n hx hb d_L_law_25 rfl (lv_at hl 0 rfl) ?_
              refine xr_slen hx hb hX hw d_L_law_26 ?_
              refine lv_iconst (v := 5) hx hb d_L_law_27 (by decide) ?_
              refine lv_isub hx hb d_L_law_28 ?_
              refine lv_icmp_gt (tgt := 1385) hx hb d_L_law_29 (by decide) (fun c9 => absurd c9 hc2) (fun _ => ?_)
              refine lv_aload_n hx hb d_L_law_32 rfl (lv_at hl 0 rfl) ?_
              refine lv_iload hx hb d_L_law_33 (lv_at hl 4 rfl) ?_
              refine xr_sld hx hb hX hw h3 d_L_law_35 ?_
              refine lv_bipush (v := 31) hx hb d_L_law_36 (by decide) ?_
              refine lv_iand hx hb d_L_law_38 ?_
              refine lv_tableIn (off := 830) (tgt := 869) hx hb d_L_law_39 (by rw [hc16]; decide) (by rw [hc16]; decide) (by rw [hc16]; rfl) (by decide) ?_
              refine lv_aload_n hx hb d_L_law_869 rfl (lv_at hl 1 rfl) ?_
              refine lv_aload_n hx hb d_L_law_870 rfl (lv_at hl 0 rfl) ?_
              refine lv_iload hx hb d_L_law_871 (lv_at hl 4 rfl) ?_
              refine lv_iconst (v := 1) hx hb d_L_law_873 (by decide) ?_
              refine lv_iadd hx hb d_L_law_874 ?_
              refine xr_sld hx hb hX hw h159 d_L_law_875 ?_
              refine lv_aload_n hx hb d_L_law_876 rfl (lv_at hl 3 rfl) ?_
              refine xr_cSW (n := 3) (hh := hh_L_size) (As := [.ref x1, .int (xs (x4 + (1 : Int32)).toNatClampNeg), .ref x3]) (rest := []) ⟨hx, hb, hml, hown, hts⟩ hw hM160 hle_u_392 (xgood w_757) List.mem_cons_self (hts _ (xm w_0)) (hts _ (xm w_755)) (hts _ (xm w_756)) ⟨by decide, by decide, by decide +kernel⟩ ⟨Nat.le_of_ble_eq_true rfl, Nat.le_of_ble_eq_true rfl⟩ ⟨Nat.le_refl _, Nat.le_refl _⟩ rfl hl.1 rfl (Nat.le_of_ble_eq_true rfl) d_L_law_877 (fun H locs hw => ?_)
              refine W.eq (g2 := F0 m 880 ls [.int r_393]) rfl ?_
              refine lv_istore (lv' := [(5, .int r_393), (0, .ref x0), (1, .ref x1), (2, .ref x2), (3, .ref x3), (4, .int x4)]) hx hb d_L_law_880 hl (by decide) rfl (fun ls hl => ?_)
              refine lv_aload_n hx hb d_L_law_882 rfl (lv_at hl 3 rfl) ?_
              refine lv_aload_n hx hb d_L_law_883 rfl (lv_at hl 1 rfl) ?_
              refine lv_iload hx hb d_L_law_884 (lv_at hl 5 rfl) ?_
              refine lv_iconst (v := 1) hx hb d_L_law_886 (by decide) ?_
              refine lv_iadd hx hb d_L_law_887 ?_
              refine xr_sld hx hb hX hw h161 d_L_law_888 ?_
              refine xr_cV (As := [.int (xs (x4 + (1 : Int32)).toNatClampNeg)]) (rest := []) ⟨hx, hb, hml, hown, hts⟩ hw hM162 hle_u_395 (fun _ _ => ⟨callB_of 1 hts (xgood w_979) rfl rfl rfl (hts _ (xm w_8)) (hts _ (xm w_976)) ⟨by decide, by decide, by decide +kernel⟩ ⟨Nat.le_of_ble_eq_true rfl, Nat.le_of_ble_eq_true rfl⟩, (hts _ (xm w_977)), (hts _ (xm w_978))⟩) (qc := (R_M, F_M, 14)) rfl rfl h163 rfl hl.1 rfl (Nat.le_of_ble_eq_true rfl) d_L_law_889 (fun H locs hw => ?_)
              refine W.eq (g2 := F0 m 892 ls [.int r_396]) rfl ?_
              refine lv_istore (lv' := [(6, .int r_396), (5, .int r_393), (0, .ref x0), (1, .ref x1), (2, .ref x2), (3, .ref x3), (4, .int x4)]) hx hb d_L_law_892 hl (by decide) rfl (fun ls hl => ?_)
              refine lv_aload_n hx hb d_L_law_894 rfl (lv_at hl 4 rfl) ?_
              refine xr_cV (As := []) (rest := []) ⟨hx, hb, hml, hown, hts⟩ hw hM164 hle_u_397 (fun _ _ => ⟨callB_of 0 hts (xgood w_915) rfl rfl rfl (hts _ (xm w_8)) (hts _ (xm w_912)) ⟨by decide, by decide, by decide +kernel⟩ ⟨Nat.le_of_ble_eq_true rfl, Nat.le_of_ble_eq_true rfl⟩, (hts _ (xm w_913)), (hts _ (xm w_914))⟩) (qc := (R_M, F_M, 14)) rfl rfl h165 rfl hl.1 rfl (Nat.le_of_ble_eq_true rfl) d_L_law_895 (fun H locs hw => ?_)
              refine W.eq (g2 := F0 m 898 ls [.int r_398]) rfl ?_
              refine lv_iload hx hb d_L_law_898 (lv_at hl 1 rfl) ?_
              refine lv_icmp_eq (tgt := 905) hx hb d_L_law_900 (by decide) (fun _ => ?_) (fun c9 => absurd hc166 c9)
              refine lv_iload hx hb d_L_law_905 (lv_at hl 1 rfl) ?_
              refine lv_if_ne (tgt := 922) hx hb d_L_law_907 (by decide) (fun c9 => absurd hc167 c9) (fun _ => ?_)
              refine lv_aload_n hx hb d_L_law_910 rfl (lv_at hl 5 rfl) ?_
              refine lv_iconst (v := 0) hx hb d_L_law_911 (by decide) ?_
              refine xr_lald hx hb hw h168 d_L_law_912 ?_
              refine lv_iload hx hb d_L_law_913 (lv_at hl 0 rfl) ?_
              refine lv_i2l hx hb d_L_law_915 rfl ?_
              refine W.lcmp hx hb d_L_law_916 ?_
              refine lv_if_eq (tgt := 922) hx hb d_L_law_917 (by decide) (fun _ => ?_) (fun c9 => absurd hc169 c9)
              exact w9 p e s m args below meth c A H locs ls F hX hw (lv_sub hl [2, 3, 4, 5, 6] rfl)
            · have k := k.2 hc169
              obtain ⟨rv, v9, hK, hle_u_397, w9⟩ := hE920 u_397 k
              have hle_u_395 : x_le u_395 v9 := (hM164.1).tr hle_u_397
              have hle_u_392 : x_le u_392 v9 := (hM162.1).tr hle_u_395
              have hle_u : x_le u v9 := (hM160.1).tr hle_u_392
              refine ⟨rv, v9, hK, hle_u, ?_⟩
              intro p e s m args below meth c A H locs ls F hX hw hl
              obtain ⟨⟨hx, hb, hml, hown, hts⟩, hr, hlocks, hmn⟩ := id F
              refine lv_iload hx hb d_L_law_23 (lv_at hl 4 rfl) ?_
              refine lv_aload_n hx hb d_L_law_25 rfl (lv_at hl 0 rfl) ?_
              refine xr_slen hx hb hX hw d_L_law_26 ?_
              refine lv_iconst (v := 5) hx hb d_L_law_27 (by decide) ?_
              refine lv_isub hx hb d_L_law_28 ?_
              refine lv_icmp_gt (tgt := 1385) hx hb d_L_law_29 (by decide) (fun c9 => absurd c9 hc2) (fun _ => ?_)
              refine lv_aload_n hx hb d_L_law_32 rfl (lv_at hl 0 rfl) ?_
              refine lv_iload hx hb d_L_law_33 (lv_at hl 4 rfl) ?_
              refine xr_sld hx hb hX hw h3 d_L_law_35 ?_
              refine lv_bipush (v := 31) hx hb d_L_law_36 (by decide) ?_
              refine lv_iand hx hb d_L_law_38 ?_
              refine lv_tableIn (off := 830) (tgt := 869) hx hb d_L_law_39 (by rw [hc16]; decide) (by rw [hc16]; decide) (by rw [hc16]; rfl) (by decide) ?_
              refine lv_aload_n hx hb d_L_law_869 rfl (lv_at hl 1 rfl) ?_
              refine lv_aload_n hx hb d_L_law_870 rfl (lv_at hl 0 rfl) ?_
              refine lv_iload hx hb d_L_law_871 (lv_at hl 4 rfl) ?_
              refine lv_iconst (v := 1) hx hb d_L_law_873 (by decide) ?_
              refine lv_iadd hx hb d_L_law_874 ?_
              refine xr_sld hx hb hX hw h159 d_L_law_875 ?_
              refine lv_aload_n hx hb d_L_law_876 rfl (lv_at hl 3 rfl) ?_
              refine xr_cSW (n := 3) (hh := hh_L_size) (As := [.ref x1, .int (xs (x4 + (1 : Int32)).toNatClampNeg), .ref x3]) (rest := []) ⟨hx, hb, hml, hown, hts⟩ hw hM160 hle_u_392 (xgood w_757) List.mem_cons_self (hts _ (xm w_0)) (hts _ (xm w_755)) (hts _ (xm w_756)) ⟨by decide, by decide, by decide +kernel⟩ ⟨Nat.le_of_ble_eq_true rfl, Nat.le_of_ble_eq_true rfl⟩ ⟨Nat.le_refl _, Nat.le_refl _⟩ rfl hl.1 rfl (Nat.le_of_ble_eq_true rfl) d_L_law_877 (fun H locs hw => ?_)
              refine W.eq (g2 := F0 m 880 ls [.int r_393]) rfl ?_
              refine lv_istore (lv' := [(5, .int r_393), (0, .ref x0), (1, .ref x1), (2, .ref x2), (3, .ref x3), (4, .int x4)]) hx hb d_L_law_880 hl (by decide) rfl (fun ls hl => ?_)
              refine lv_aload_n hx hb d_L_law_882 rfl (lv_at hl 3 rfl) ?_
              refine lv_aload_n hx hb d_L_law_883 rfl (lv_at hl 1 rfl) ?_
              refine lv_iload hx hb d_L_law_884 (lv_at hl 5 rfl) ?_
              refine lv_iconst (v := 1) hx hb d_L_law_886 (by decide) ?_
              refine lv_iadd hx hb d_L_law_887 ?_
              refine xr_sld hx hb hX hw h161 d_L_law_888 ?_
              refine xr_cV (As := [.int (xs (x4 + (1 : Int32)).toNatClampNeg)]) (rest := []) ⟨hx, hb, hml, hown, hts⟩ hw hM162 hle_u_395 (fun _ _ => ⟨callB_of 1 hts (xgood w_979) rfl rfl rfl (hts _ (xm w_8)) (hts _ (xm w_976)) ⟨by decide, by decide, by decide +kernel⟩ ⟨Nat.le_of_ble_eq_true rfl, Nat.le_of_ble_eq_true rfl⟩, (hts _ (xm w_977)), (hts _ (xm w_978))⟩) (qc := (R_M, F_M, 14)) rfl rfl h163 rfl hl.1 rfl (Nat.le_of_ble_eq_true rfl) d_L_law_889 (fun H locs hw => ?_)
              refine W.eq (g2 := F0 m 892 ls [.int r_396]) rfl ?_
              refine lv_istore (lv' := [(6, .int r_396), (5, .int r_393), (0, .ref x0), (1, .ref x1), (2, .ref x2), (3, .ref x3), (4, .int x4)]) hx hb d_L_law_892 hl (by decide) rfl (fun ls hl => ?_)
              refine lv_aload_n hx hb d_L_law_894 rfl (lv_at hl 4 rfl) ?_
              refine xr_cV (As := []) (rest := []) ⟨hx, hb, hml, hown, hts⟩ hw hM164 hle_u_397 (fun _ _ => ⟨callB_of 0 hts (xgood w_915) rfl rfl rfl (hts _ (xm w_8)) (hts _ (xm w_912)) ⟨by decide, by decide, by decide +kernel⟩ ⟨Nat.le_of_ble_eq_true rfl, Nat.le_of_ble_eq_true rfl⟩, (hts _ (xm w_913)), (hts _ (xm w_914))⟩) (qc := (R_M, F_M, 14)) rfl rfl h165 rfl hl.1 rfl (Nat.le_of_ble_eq_true rfl) d_L_law_895 (fun H locs hw => ?_)
              refine W.eq (g2 := F0 m 898 ls [.int r_398]) rfl ?_
              refine lv_iload hx hb d_L_law_898 (lv_at hl 1 rfl) ?_
              refine lv_icmp_eq (tgt := 905) hx hb d_L_law_900 (by decide) (fun _ => ?_) (fun c9 => absurd hc166 c9)
              refine lv_iload hx hb d_L_law_905 (lv_at hl 1 rfl) ?_
              refine lv_if_ne (tgt := 922) hx hb d_L_law_907 (by decide) (fun c9 => absurd hc167 c9) (fun _ => ?_)
              refine lv_aload_n hx hb d_L_law_910 rfl (lv_at hl 5 rfl) ?_
              refine lv_iconst (v := 0) hx hb d_L_law_911 (by decide) ?_
              refine xr_lald hx hb hw h168 d_L_law_912 ?_
              refine lv_iload hx hb d_L_law_913 (lv_at hl 0 rfl) ?_
              refine lv_i2l hx hb d_L_law_915 rfl ?_
              refine W.lcmp hx hb d_L_law_916 ?_
              refine lv_if_eq (tgt := 922) hx hb d_L_law_917 (by decide) (fun c9 => absurd c9 hc169) (fun _ => ?_)
              exact w9 p e s m args below meth c A H locs ls F hX hw (lv_sub hl [] rfl)
          · have k := k.1 hc167
            obtain ⟨rv, v9, hK, hle_u_397, w9⟩ := t_L_law_J922 l Z u0 sL xs x0 x1 x2 x3 x4 u_397 ih hE175 hE223 hE295 hE367 hE439 hE511 hE599 hE671 hE722 hE739 hE778 hE795 hE811 hE847 hE864 hE903 hE920 hE959 hE976 hE1027 hE1051 hE1090 hE1107 hE1146 hE1163 hE1214 hE1238 hE1301 hE1318 hE1357 hE1374 hE1385 k
            have hle_u_395 : x_le u_395 v9 := (hM164.1).tr hle_u_397
            have hle_u_392 : x_le u_392 v9 := (hM162.1).tr hle_u_395
            have hle_u : x_le u v9 := (hM160.1).tr hle_u_392
            refine ⟨rv, v9, hK, hle_u, ?_⟩
            intro p e s m args below meth c A H locs ls F hX hw hl
            obtain ⟨⟨hx, hb, hml, hown, hts⟩, hr, hlocks, hmn⟩ := id F
            refine lv_iload hx hb d_L_law_23 (lv_at hl 4 rfl) ?_
            refine lv_aload_n hx hb d_L_law_25 rfl (lv_at hl 0 rfl) ?_
            refine xr_slen hx hb hX hw d_L_law_26 ?_
            refine lv_iconst (v := 5) hx hb d_L_law_27 (by decide) ?_
            refine lv_isub hx hb d_L_law_28 ?_
            refine lv_icmp_gt (tgt := 1385) hx hb d_L_law_29 (by decide) (fun c9 => absurd c9 hc2) (fun _ => ?_)
            refine lv_aload_n hx hb d_L_law_32 rfl (lv_at hl 0 rfl) ?_
            refine lv_iload hx hb d_L_law_33 (lv_at hl 4 rfl) ?_
            refine xr_sld hx hb hX hw h3 d_L_law_35 ?_
            refine lv_bipush (v := 31) hx hb d_L_law_36 (by decide) ?_
            refine lv_iand hx hb d_L_law_38 ?_
            refine lv_tableIn (off := 830) (tgt := 869) hx hb d_L_law_39 (by rw [hc16]; decide) (by rw [hc16]; decide) (by rw [hc16]; rfl) (by decide) ?_
            refine lv_aload_n hx hb d_L_law_869 rfl (lv_at hl 1 rfl) ?_
            refine lv_aload_n hx hb d_L_law_870 rfl (lv_at hl 0 rfl) ?_
            refine lv_iload hx hb d_L_law_871 (lv_at hl 4 rfl) ?_
            refine lv_iconst (v := 1) hx hb d_L_law_873 (by decide) ?_
            refine lv_iadd hx hb d_L_law_874 ?_
            refine xr_sld hx hb hX hw h159 d_L_law_875 ?_
            refine lv_aload_n hx hb d_L_law_876 rfl (lv_at hl 3 rfl) ?_
            refine xr_cSW (n := 3) (hh := hh_L_size) (As := [.ref x1, .int (xs (x4 + (1 : Int32)).toNatClampNeg), .ref x3]) (rest := []) ⟨hx, hb, hml, hown, hts⟩ hw hM160 hle_u_392 (xgood w_757) List.mem_cons_self (hts _ (xm w_0)) (hts _ (xm w_755)) (hts _ (xm w_756)) ⟨by decide, by decide, by decide +kernel⟩ ⟨Nat.le_of_ble_eq_true rfl, Nat.le_of_ble_eq_true rfl⟩ ⟨Nat.le_refl _, Nat.le_refl _⟩ rfl hl.1 rfl (Nat.le_of_ble_eq_true rfl) d_L_law_877 (fun H locs hw => ?_)
            refine W.eq (g2 := F0 m 880 ls [.int r_393]) rfl ?_
            refine lv_istore (lv' := [(5, .int r_393), (0, .ref x0), (1, .ref x1), (2, .ref x2), (3, .ref x3), (4, .int x4)]) hx hb d_L_law_880 hl (by decide) rfl (fun ls hl => ?_)
            refine lv_aload_n hx hb d_L_law_882 rfl (lv_at hl 3 rfl) ?_
            refine lv_aload_n hx hb d_L_law_883 rfl (lv_at hl 1 rfl) ?_
            refine lv_iload hx hb d_L_law_884 (lv_at hl 5 rfl) ?_
            refine lv_iconst (v := 1) hx hb d_L_law_886 (by decide) ?_
            refine lv_iadd hx hb d_L_law_887 ?_
            refine xr_sld hx hb hX hw h161 d_L_law_888 ?_
            refine xr_cV (As := [.int (xs (x4 + (1 : Int32)).toNatClampNeg)]) (rest := []) ⟨hx, hb, hml, hown, hts⟩ hw hM162 hle_u_395 (fun _ _ => ⟨callB_of 1 hts (xgood w_979) rfl rfl rfl (hts _ (xm w_8)) (hts _ (xm w_976)) ⟨by decide, by decide, by decide +kernel⟩ ⟨Nat.le_of_ble_eq_true rfl, Nat.le_of_ble_eq_true rfl⟩, (hts _ (xm w_977)), (hts _ (xm w_978))⟩) (qc := (R_M, F_M, 14)) rfl rfl h163 rfl hl.1 rfl (Nat.le_of_ble_eq_true rfl) d_L_law_889 (fun H locs hw => ?_)
            refine W.eq (g2 := F0 m 892 ls [.int r_396]) rfl ?_
            refine lv_istore (lv' := [(6, .int r_396), (5, .int r_393), (0, .ref x0), (1, .ref x1), (2, .ref x2), (3, .ref x3), (4, .int x4)]) hx hb d_L_law_892 hl (by decide) rfl (fun ls hl => ?_)
            refine lv_aload_n hx hb d_L_law_894 rfl (lv_at hl 4 rfl) ?_
            refine xr_cV (As := []) (rest := []) ⟨hx, hb, hml, hown, hts⟩ hw hM164 hle_u_397 (fun _ _ => ⟨callB_of 0 hts (xgood w_915) rfl rfl rfl (hts _ (xm w_8)) (hts _ (xm w_912)) ⟨by decide, by decide, by decide +kernel⟩ ⟨Nat.le_of_ble_eq_true rfl, Nat.le_of_ble_eq_true rfl⟩, (hts _ (xm w_913)), (hts _ (xm w_914))⟩) (qc := (R_M, F_M, 14)) rfl rfl h165 rfl hl.1 rfl (Nat.le_of_ble_eq_true rfl) d_L_law_895 (fun H locs hw => ?_)
            refine W.eq (g2 := F0 m 898 ls [.int r_398]) rfl ?_
            refine lv_iload hx hb d_L_law_898 (lv_at hl 1 rfl) ?_
            refine lv_icmp_eq (tgt := 905) hx hb d_L_law_900 (by decide) (fun _ => ?_) (fun c9 => absurd hc166 c9)
            refine lv_iload hx hb d_L_law_905 (lv_at hl 1 rfl) ?_
            refine lv_if_ne (tgt := 922) hx hb d_L_law_907 (by decide) (fun _ => ?_) (fun c9 => absurd c9 hc167)
            exact w9 p e s m args below meth c A H locs ls F hX hw (lv_sub hl [2, 3, 4, 5, 6] rfl)
        · have k := k.2 hc166
          obtain ⟨rv, v9, hK, hle_u_397, w9⟩ := hE903 u_397 k
          have hle_u_395 : x_le u_395 v9 := (hM164.1).tr hle_u_397
          have hle_u_392 : x_le u_392 v9 := (hM162.1).tr hle_u_395
          have hle_u : x_le u v9 := (hM160.1).tr hle_u_392
          refine ⟨rv, v9, hK, hle_u, ?_⟩
          intro p e s m args below meth c A H locs ls F hX hw hl
          obtain ⟨⟨hx, hb, hml, hown, hts⟩, hr, hlocks, hmn⟩ := id F
          refine lv_iload hx hb d_L_law_23 (lv_at hl 4 rfl) ?_
          refine lv_aload_n hx hb d_L_law_25 rfl (lv_at hl 0 rfl) ?_
          refine xr_slen hx hb hX hw d_L_law_26 ?_
          refine lv_iconst (v := 5) hx hb d_L_law_27 (by decide) ?_
          refine lv_isub hx hb d_L_law_28 ?_
          refine lv_icmp_gt (tgt := 1385) hx hb d_L_law_29 (by decide) (fun c9 => absurd c9 hc2) (fun _ => ?_)
          refine lv_aload_n hx hb d_L_law_32 rfl (lv_at hl 0 rfl) ?_
          refine lv_iload hx hb d_L_law_33 (lv_at hl 4 rfl) ?_
          refine xr_sld hx hb hX hw h3 d_L_law_35 ?_
          refine lv_bipush (v := 31) hx hb d_L_law_36 (by decide) ?_
          refine lv_iand hx hb d_L_law_38 ?_
          refine lv_tableIn (off := 830) (tgt := 869) hx hb d_L_law_39 (by rw [hc16]; decide) (by rw [hc16]; decide) (by rw [hc16]; rfl) (by decide) ?_
          refine lv_aload_n hx hb d_L_law_869 rfl (lv_at hl 1 rfl) ?_
          refine lv_aload_n hx hb d_L_law_870 rfl (lv_at hl 0 rfl) ?_
          refine lv_iload hx hb d_L_law_871 (lv_at hl 4 rfl) ?_
          refine lv_iconst (v := 1) hx hb d_L_law_873 (by decide) ?_
          refine lv_iadd hx hb d_L_law_874 ?_
          refine xr_sld hx hb hX hw h159 d_L_law_875 ?_
          refine lv_aload_n hx hb d_L_law_876 rfl (lv_at hl 3 rfl) ?_
          refine xr_cSW (n := 3) (hh := hh_L_size) (As := [.ref x1, .int (xs (x4 + (1 : Int32)).toNatClampNeg), .ref x3]) (rest := []) ⟨hx, hb, hml, hown, hts⟩ hw hM160 hle_u_392 (xgood w_757) List.mem_cons_self (hts _ (xm w_0)) (hts _ (xm w_755)) (hts _ (xm w_756)) ⟨by decide, by decide, by decide +kernel⟩ ⟨Nat.le_of_ble_eq_true rfl, Nat.le_of_ble_eq_true rfl⟩ ⟨Nat.le_refl _, Nat.le_refl _⟩ rfl hl.1 rfl (Nat.le_of_ble_eq_true rfl) d_L_law_877 (fun H locs hw => ?_)
          refine W.eq (g2 := F0 m 880 ls [.int r_393]) rfl ?_
          refine lv_istore (lv' := [(5, .int r_393), (0, .ref x0), (1, .ref x1), (2, .ref x2), (3, .ref x3), (4, .int x4)]) hx hb d_L_law_880 hl (by decide) rfl (fun ls hl => ?_)
          refine lv_aload_n hx hb d_L_law_882 rfl (lv_at hl 3 rfl) ?_
          refine lv_aload_n hx hb d_L_law_883 rfl (lv_at hl 1 rfl) ?_
          refine lv_iload hx hb d_L_law_884 (lv_at hl 5 rfl) ?_
          refine lv_iconst (v := 1) hx hb d_L_law_886 (by decide) ?_
          refine lv_iadd hx hb d_L_law_887 ?_
          refine xr_sld hx hb hX hw h161 d_L_law_888 ?_
          refine xr_cV (As := [.int (xs (x4 + (1 : Int32)).toNatClampNeg)]) (rest := []) ⟨hx, hb, hml, hown, hts⟩ hw hM162 hle_u_395 (fun _ _ => ⟨callB_of 1 hts (xgood w_979) rfl rfl rfl (hts _ (xm w_8)) (hts _ (xm w_976)) ⟨by decide, by decide, by decide +kernel⟩ ⟨Nat.le_of_ble_eq_true rfl, Nat.le_of_ble_eq_true rfl⟩, (hts _ (xm w_977)), (hts _ (xm w_978))⟩) (qc := (R_M, F_M, 14)) rfl rfl h163 rfl hl.1 rfl (Nat.le_of_ble_eq_true rfl) d_L_law_889 (fun H locs hw => ?_)
          refine W.eq (g2 := F0 m 892 ls [.int r_396]) rfl ?_
          refine lv_istore (lv' := [(6, .int r_396), (5, .int r_393), (0, .ref x0), (1, .ref x1), (2, .ref x2), (3, .ref x3), (4, .int x4)]) hx hb d_L_law_892 hl (by decide) rfl (fun ls hl => ?_)
          refine lv_aload_n hx hb d_L_law_894 rfl (lv_at hl 4 rfl) ?_
          refine xr_cV (As := []) (rest := []) ⟨hx, hb, hml, hown, hts⟩ hw hM164 hle_u_397 (fun _ _ => ⟨callB_of 0 hts (xgood w_915) rfl rfl rfl (hts _ (xm w_8)) (hts _ (xm w_912)) ⟨by decide, by decide, by decide +kernel⟩ ⟨Nat.le_of_ble_eq_true rfl, Nat.le_of_ble_eq_true rfl⟩, (hts _ (xm w_913)), (hts _ (xm w_914))⟩) (qc := (R_M, F_M, 14)) rfl rfl h165 rfl hl.1 rfl (Nat.le_of_ble_eq_true rfl) d_L_law_895 (fun H locs hw => ?_)
          refine W.eq (g2 := F0 m 898 ls [.int r_398]) rfl ?_
          refine lv_iload hx hb d_L_law_898 (lv_at hl 1 rfl) ?_
          refine lv_icmp_eq (tgt := 905) hx hb d_L_law_900 (by decide) (fun c9 => absurd c9 hc166) (fun _ => ?_)
          exact w9 p e s m args below meth c A H locs ls F hX hw (lv_sub hl [] rfl)
      by_cases hc17 : ((xs x4.toNatClampNeg) &&& (31 : Int32)) = 13
      · have k := k.2.2.2.2.2.2.2.2.2.2.2.2.2.1 hc17
        obtain ⟨h170, k⟩ := k
        obtain ⟨_, u_401, ⟨r_402, rfl, k⟩, hM171⟩ := c_L_count l Z x1 (xs (x4 + (1 : Int32)).toNatClampNeg) x3 u _ k
        obtain ⟨h172, k⟩ := k
        obtain ⟨h174, k⟩ := k
        obtain ⟨_, u_404, ⟨r_405, rfl, k⟩, hM173⟩ := c_M_count l Z x2 (xs (x4 + (1 : Int32)).toNatClampNeg) u_401 _ k
        obtain ⟨h176, k⟩ := k
        obtain ⟨_, u_406, ⟨r_407, rfl, k⟩, hM175⟩ := c_M_thrown l Z x2 u_404 _ k
        by_cases hc177 : r_407 = r_402
        · have k := k.1 hc177
          by_cases hc178 : r_402 = 0
          · have k := k.2 hc178
            obtain ⟨z_408, h179, k⟩ := k
            by_cases hc180 : (lg_cmp z_408 (r_405.toInt64)) = 0
            · have k := k.1 hc180
              obtain ⟨rv, v9, hK, hle_u_406, w9⟩ := t_L_law_J978 l Z u0 sL xs x0 x1 x2 x3 x4 u_406 ih hE175 hE223 hE295 hE367 hE439 hE511 hE599 hE671 hE722 hE739 hE778 hE795 hE811 hE847 hE864 hE903 hE920 hE959 hE976 hE1027 hE1051 hE1090 hE1107 hE1146 hE1163 hE1214 hE1238 hE1301 hE1318 hE1357 hE1374 hE1385 k
              have hle_u_404 : x_le u_404 v9 := (hM175.1).tr hle_u_406
              have hle_u_401 : x_le u_401 v9 := (hM173.1).tr hle_u_404
              have hle_u : x_le u v9 := (hM171.1).tr hle_u_401
              refine ⟨rv, v9, hK, hle_u, ?_⟩
              intro p e s m args below meth c A H locs ls F hX hw hl
              obtain ⟨⟨hx, hb, hml, hown, hts⟩, hr, hlocks, hmn⟩ := id F
              refine lv_iload hx hb d_L_law_23 (lv_at hl 4 rfl) ?_
              refine lv_aload_n hx hb d_L_law_25 rfl (lv_at hl 0 rfl) ?_
              refine xr_slen hx hb hX hw d_L_law_26 ?_
              refine lv_iconst (v := 5) hx hb d_L_law_27 (by decide) ?_
              refine lv_isub hx hb d_L_law_28 ?_
              refine lv_icmp_gt (tgt := 1385) hx hb d_L_law_29 (by decide) (fun c9 => absurd c9 hc2) (fun _ => ?_)
              refine lv_aload_n hx hb d_L_law_32 rfl (lv_at hl 0 rfl) ?_
              refine lv_iload hx hb d_L_law_33 (lv_at hl 4 rfl) ?_
              refine xr_sld hx hb hX hw h3 d_L_law_35 ?_
              refine lv_bipush (v := 31) hx hb d_L_law_36 (by decide) ?_
              refine lv_iand hx hb d_L_law_38 ?_
              refine lv_tableIn (off := 886) (tgt := 925) hx hb d_L_law_39 (by rw [hc17]; decide) (by rw [hc17]; decide) (by rw [hc17]; rfl) (by decide) ?_
              refine lv_aload_n hx hb d_L_law_925 rfl (lv_at hl 1 rfl) ?_
              refine lv_aload_n hx hb d_L_law_926 rfl (lv_at hl 0 rfl) ?_
              refine lv_iload hx hb d_L_law_927 (lv_at hl 4 rfl) ?_
              refine lv_iconst (v := 1) hx hb d_L_law_929 (by decide) ?_
              refine lv_iadd hx hb d_L_law_930 ?_
              refine xr_sld hx hb hX hw h170 d_L_law_931 ?_
              refine lv_aload_n hx hb d_L_law_932 rfl (lv_at hl 3 rfl) ?_
              refine xr_cSW (n := 3) (hh := hh_L_count) (As := [.ref x1, .int (xs (x4 + (1 : Int32)).toNatClampNeg), .ref x3]) (rest := []) ⟨hx, hb, hml, hown, hts⟩ hw hM171 hle_u_401 (xgood w_776) List.mem_cons_self (hts _ (xm w_0)) (hts _ (xm w_774)) (hts _ (xm w_775)) ⟨by decide, by decide, by decide +kernel⟩ ⟨Nat.le_of_ble_eq_true rfl, Nat.le_of_ble_eq_true rfl⟩ ⟨Nat.le_refl _, Nat.le_refl _⟩ rfl hl.1 rfl (Nat.le_of_ble_eq_true rfl) d_L_law_933 (fun H locs hw => ?_)
              refine W.eq (g2 := F0 m 936 ls [.int r_402]) rfl ?_
              refine lv_istore (lv' := [(5, .int r_402), (0, .ref x0), (1, .ref x1), (2, .ref x2), (3, .ref x3), (4, .int x4)]) hx hb d_L_law_936 hl (by decide) rfl (fun ls hl => ?_)
              refine lv_aload_n hx hb d_L_law_938 rfl (lv_at hl 3 rfl) ?_
              refine lv_aload_n hx hb d_L_law_939 rfl (lv_at hl 1 rfl) ?_
              refine lv_iload hx hb d_L_law_940 (lv_at hl 5 rfl) ?_
              refine lv_iconst (v := 1) hx hb d_L_law_942 (by decide) ?_
              refine lv_iadd hx hb d_L_law_943 ?_
              refine xr_sld hx hb hX hw h172 d_L_law_944 ?_
              refine xr_cV (As := [.int (xs (x4 + (1 : Int32)).toNatClampNeg)]) (rest := []) ⟨hx, hb, hml, hown, hts⟩ hw hM173 hle_u_404 (fun _ _ => ⟨callB_of 1 hts (xgood w_1032) rfl rfl rfl (hts _ (xm w_8)) (hts _ (xm w_1029)) ⟨by decide, by decide, by decide +kernel⟩ ⟨Nat.le_of_ble_eq_true rfl, Nat.le_of_ble_eq_true rfl⟩, (hts _ (xm w_1030)), (hts _ (xm w_1031))⟩) (qc := (R_M, F_M, 14)) rfl rfl h174 rfl hl.1 rfl (Nat.le_of_ble_eq_true rfl) d_L_law_945 (fun H locs hw => ?_)
              refine W.eq (g2 := F0 m 948 ls [.int r_405]) rfl ?_
              refine lv_istore (lv' := [(6, .int r_405), (5, .int r_402), (0, .ref x0), (1, .ref x1), (2, .ref x2), (3, .ref x3), (4, .int x4)]) hx hb d_L_law_948 hl (by decide) rfl (fun ls hl => ?_)
              refine lv_aload_n hx hb d_L_law_950 rfl (lv_at hl 4 rfl) ?_
              refine xr_cV (As := []) (rest := []) ⟨hx, hb, hml, hown, hts⟩ hw hM175 hle_u_406 (fun _ _ => ⟨callB_of 0 hts (xgood w_915) rfl rfl rfl (hts _ (xm w_8)) (hts _ (xm w_912)) ⟨by decide, by decide, by decide +kernel⟩ ⟨Nat.le_of_ble_eq_true rfl, Nat.le_of_ble_eq_true rfl⟩, (hts _ (xm w_913)), (hts _ (xm w_914))⟩) (qc := (R_M, F_M, 14)) rfl rfl h176 rfl hl.1 rfl (Nat.le_of_ble_eq_true rfl) d_L_law_951 (fun H locs hw => ?_)
              refine W.eq (g2 := F0 m 954 ls [.int r_407]) rfl ?_
              refine lv_iload hx hb d_L_law_954 (lv_at hl 1 rfl) ?_
              refine lv_icmp_eq (tgt := 961) hx hb d_L_law_956 (by decide) (fun _ => ?_) (fun c9 => absurd hc177 c9)
              refine lv_iload hx hb d_L_law_961 (lv_at hl 1 rfl) ?_
              refine lv_if_ne (tgt := 978) hx hb d_L_law_963 (by decide) (fun c9 => absurd hc178 c9) (fun _ => ?_)
              refine lv_aload_n hx hb d_L_law_966 rfl (lv_at hl 5 rfl) ?_
              refine lv_iconst (v := 0) hx hb d_L_law_967 (by decide) ?_
              refine xr_lald hx hb hw h179 d_L_law_968 ?_
              refine lv_iload hx hb d_L_law_969 (lv_at hl 0 rfl) ?_
              refine lv_i2l hx hb d_L_law_971 rfl ?_
              refine W.lcmp hx hb d_L_law_972 ?_
              refine lv_if_eq (tgt := 978) hx hb d_L_law_973 (by decide) (fun _ => ?_) (fun c9 => absurd hc180 c9)
              exact w9 p e s m args below meth c A H locs ls F hX hw (lv_sub hl [2, 3, 4, 5, 6] rfl)
            · have k := k.2 hc180
              obtain ⟨rv, v9, hK, hle_u_406, w9⟩ := hE976 u_406 k
              have hle_u_404 : x_le u_404 v9 := (hM175.1).tr hle_u_406
              have hle_u_401 : x_le u_401 v9 := (hM173.1).tr hle_u_404
              have hle_u : x_le u v9 := (hM171.1).tr hle_u_401
              refine ⟨rv, v9, hK, hle_u, ?_⟩
              intro p e s m args below meth c A H locs ls F hX hw hl
              obtain ⟨⟨hx, hb, hml, hown, hts⟩, hr, hlocks, hmn⟩ := id F
              refine lv_iload hx hb d_L_law_23 (lv_at hl 4 rfl) ?_
              refine lv_aload_n hx hb d_L_law_25 rfl (lv_at hl 0 rfl) ?_
              refine xr_slen hx hb hX hw d_L_law_26 ?_
              refine lv_iconst (v := 5) hx hb d_L_law_27 (by decide) ?_
              refine lv_isub hx hb d_L_law_28 ?_
              refine lv_icmp_gt (tgt := 1385) hx hb d_L_law_29 (by decide) (fun c9 => absurd c9 hc2) (fun _ => ?_)
              refine lv_aload_n hx hb d_L_law_32 rfl (lv_at hl 0 rfl) ?_
              refine lv_iload hx hb d_L_law_33 (lv_at hl 4 rfl) ?_
              refine xr_sld hx hb hX hw h3 d_L_law_35 ?_
              refine lv_bipush (v := 31) hx hb d_L_law_36 (by decide) ?_
              refine lv_iand hx hb d_L_law_38 ?_
              refine lv_tableIn (off := 886) (tgt := 925) hx hb d_L_law_39 (by rw [hc17]; decide) (by rw [hc17]; decide) (by rw [hc17]; rfl) (by decide) ?_
              refine lv_aload_n hx hb d_L_law_925 rfl (lv_at hl 1 rfl) ?_
              refine lv_aload_n hx hb d_L_law_926 rfl (lv_at hl 0 rfl) ?_
              refine lv_iload hx hb d_L_law_927 (lv_at hl 4 rfl) ?_
              refine lv_iconst (v := 1) hx hb d_L_law_929 (by decide) ?_
              refine lv_iadd hx hb d_L_law_930 ?_
              refine xr_sld hx hb hX hw h170 d_L_law_931 ?_
              refine lv_aload_n hx hb d_L_law_932 rfl (lv_at hl 3 rfl) ?_
              refine xr_cSW (n := 3) (hh := hh_L_count) (As := [.ref x1, .int (xs (x4 + (1 : Int32)).toNatClampNeg), .ref x3]) (rest := []) ⟨hx, hb, hml, hown, hts⟩ hw hM171 hle_u_401 (xgood w_776) List.mem_cons_self (hts _ (xm w_0)) (hts _ (xm w_774)) (hts _ (xm w_775)) ⟨by decide, by decide, by decide +kernel⟩ ⟨Nat.le_of_ble_eq_true rfl, Nat.le_of_ble_eq_true rfl⟩ ⟨Nat.le_refl _, Nat.le_refl _⟩ rfl hl.1 rfl (Nat.le_of_ble_eq_true rfl) d_L_law_933 (fun H locs hw => ?_)
              refine W.eq (g2 := F0 m 936 ls [.int r_402]) rfl ?_
              refine lv_istore (lv' := [(5, .int r_402), (0, .ref x0), (1, .ref x1), (2, .ref x2), (3, .ref x3), (4, .int x4)]) hx hb d_L_law_936 hl (by decide) rfl (fun ls hl => ?_)
              refine lv_aload_n hx hb d_L_law_938 rfl (lv_at hl 3 rfl) ?_
              refine lv_aload_n hx hb d_L_law_939 rfl (lv_at hl 1 rfl) ?_
              refine lv_iload hx hb d_L_law_940 (lv_at hl 5 rfl) ?_
              refine lv_iconst (v := 1) hx hb d_L_law_942 (by decide) ?_
              refine lv_iadd hx hb d_L_law_943 ?_
              refine xr_sld hx hb hX hw h172 d_L_law_944 ?_
              refine xr_cV (As := [.int (xs (x4 + (1 : Int32)).toNatClampNeg)]) (rest := []) ⟨hx, hb, hml, hown, hts⟩ hw hM173 hle_u_404 (fun _ _ => ⟨callB_of 1 hts (xgood w_1032) rfl rfl rfl (hts _ (xm w_8)) (hts _ (xm w_1029)) ⟨by decide, by decide, by decide +kernel⟩ ⟨Nat.le_of_ble_eq_true rfl, Nat.le_of_ble_eq_true rfl⟩, (hts _ (xm w_1030)), (hts _ (xm w_1031))⟩) (qc := (R_M, F_M, 14)) rfl rfl h174 rfl hl.1 rfl (Nat.le_of_ble_eq_true rfl) d_L_law_945 (fun H locs hw => ?_)
              refine W.eq (g2 := F0 m 948 ls [.int r_405]) rfl ?_
              refine lv_istore (lv' := [(6, .int r_405), (5, .int r_402), (0, .ref x0), (1, .ref x1), (2, .ref x2), (3, .ref x3), (4, .int x4)]) hx hb d_L_law_948 hl (by decide) rfl (fun ls hl => ?_)
              refine lv_aload_n hx hb d_L_law_950 rfl (lv_at hl 4 rfl) ?_
              refine xr_cV (As := []) (rest := []) ⟨hx, hb, hml, hown, hts⟩ hw hM175 hle_u_406 (fun _ _ => ⟨callB_of 0 hts (xgood w_915) rfl rfl rfl (hts _ (xm w_8)) (hts _ (xm w_912)) ⟨by decide, by decide, by decide +kernel⟩ ⟨Nat.le_of_ble_eq_true rfl, Nat.le_of_ble_eq_true rfl⟩, (hts _ (xm w_913)), (hts _ (xm w_914))⟩) (qc := (R_M, F_M, 14)) rfl rfl h176 rfl hl.1 rfl (Nat.le_of_ble_eq_true rfl) d_L_law_951 (fun H locs hw => ?_)
              refine W.eq (g2 := F0 m 954 ls [.int r_407]) rfl ?_
              refine lv_iload hx hb d_L_law_954 (lv_at hl 1 rfl) ?_
              refine lv_icmp_eq (tgt := 961) hx hb d_L_law_956 (by decide) (fun _ => ?_) (fun c9 => absurd hc177 c9)
              refine lv_iload hx hb d_L_law_961 (lv_at hl 1 rfl) ?_
              refine lv_if_ne (tgt := 978) hx hb d_L_law_963 (by decide) (fun c9 => absurd hc178 c9) (fun _ => ?_)
              refine lv_aload_n hx hb d_L_law_966 rfl (lv_at hl 5 rfl) ?_
              refine lv_iconst (v := 0) hx hb d_L_law_967 (by decide) ?_
              refine xr_lald hx hb hw h179 d_L_law_968 ?_
              refine lv_iload hx hb d_L_law_969 (lv_at hl 0 rfl) ?_
              refine lv_i2l hx hb d_L_law_971 rfl ?_
              refine W.lcmp hx hb d_L_law_972 ?_
              refine lv_if_eq (tgt := 978) hx hb d_L_law_973 (by decide) (fun c9 => absurd c9 hc180) (fun _ => ?_)
              exact w9 p e s m args below meth c A H locs ls F hX hw (lv_sub hl [] rfl)
          · have k := k.1 hc178
            obtain ⟨rv, v9, hK, hle_u_406, w9⟩ := t_L_law_J978 l Z u0 sL xs x0 x1 x2 x3 x4 u_406 ih hE175 hE223 hE295 hE367 hE439 hE511 hE599 hE671 hE722 hE739 hE778 hE795 hE811 hE847 hE864 hE903 hE920 hE959 hE976 hE1027 hE1051 hE1090 hE1107 hE1146 hE1163 hE1214 hE1238 hE1301 hE1318 hE1357 hE1374 hE1385 k
            have hle_u_404 : x_le u_404 v9 := (hM175.1).tr hle_u_406
            have hle_u_401 : x_le u_401 v9 := (hM173.1).tr hle_u_404
            have hle_u : x_le u v9 := (hM171.1).tr hle_u_401
            refine ⟨rv, v9, hK, hle_u, ?_⟩
            intro p e s m args below meth c A H locs ls F hX hw hl
            obtain ⟨⟨hx, hb, hml, hown, hts⟩, hr, hlocks, hmn⟩ := id F
            refine lv_iload hx hb d_L_law_23 (lv_at hl 4 rfl) ?_
            refine lv_aload_n hx hb d_L_law_25 rfl (lv_at hl 0 rfl) ?_
            refine xr_slen hx hb hX hw d_L_law_26 ?_
            refine lv_iconst (v := 5) hx hb d_L_law_27 (by decide) ?_
            refine lv_isub hx hb d_L_law_28 ?_
            refine lv_icmp_gt (tgt := 1385) hx hb d_L_law_29 (by decide) (fun c9 => absurd c9 hc2) (fun _ => ?_)
            refine lv_aload_n hx hb d_L_law_32 rfl (lv_at hl 0 rfl) ?_
            refine lv_iload hx hb d_L_law_33 (lv_at hl 4 rfl) ?_
            refine xr_sld hx hb hX hw h3 d_L_law_35 ?_
            refine lv_bipush (v := 31) hx hb d_L_law_36 (by decide) ?_
            refine lv_iand hx hb d_L_law_38 ?_
            refine lv_tableIn (off := 886) (tgt := 925) hx hb d_L_law_39 (by rw [hc17]; decide) (by rw [hc17]; decide) (by rw [hc17]; rfl) (by decide) ?_
            refine lv_aload_n hx hb d_L_law_925 rfl (lv_at hl 1 rfl) ?_
            refine lv_aload_n hx hb d_L_law_926 rfl (lv_at hl 0 rfl) ?_
            refine lv_iload hx hb d_L_law_927 (lv_at hl 4 rfl) ?_
            refine lv_iconst (v := 1) hx hb d_L_law_929 (by decide) ?_
            refine lv_iadd hx hb d_L_law_930 ?_
            refine xr_sld hx hb hX hw h170 d_L_law_931 ?_
            refine lv_aload_n hx hb d_L_law_932 rfl (lv_at hl 3 rfl) ?_
            refine xr_cSW (n := 3) (hh := hh_L_count) (As := [.ref x1, .int (xs (x4 + (1 : Int32)).toNatClampNeg), .ref x3]) (rest := []) ⟨hx, hb, hml, hown, hts⟩ hw hM171 hle_u_401 (xgood w_776) List.mem_cons_self (hts _ (xm w_0)) (hts _ (xm w_774)) (hts _ (xm w_775)) ⟨by decide, by decide, by decide +kernel⟩ ⟨Nat.le_of_ble_eq_true rfl, Nat.le_of_ble_eq_true rfl⟩ ⟨Nat.le_refl _, Nat.le_refl _⟩ rfl hl.1 rfl (Nat.le_of_ble_eq_true rfl) d_L_law_933 (fun H locs hw => ?_)
            refine W.eq (g2 := F0 m 936 ls [.int r_402]) rfl ?_
            refine lv_istore (lv' := [(5, .int r_402), (0, .ref x0), (1, .ref x1), (2, .ref x2), (3, .ref x3), (4, .int x4)]) hx hb d_L_law_936 hl (by decide) rfl (fun ls hl => ?_)
            refine lv_aload_n hx hb d_L_law_938 rfl (lv_at hl 3 rfl) ?_
            refine lv_aload_n hx hb d_L_law_939 rfl (lv_at hl 1 rfl) ?_
            refine lv_iload hx hb d_L_law_940 (lv_at hl 5 rfl) ?_
            refine lv_iconst (v := 1) hx hb d_L_law_942 (by decide) ?_
            refine lv_iadd hx hb d_L_law_943 ?_
            refine xr_sld hx hb hX hw h172 d_L_law_944 ?_
            refine xr_cV (As := [.int (xs (x4 + (1 : Int32)).toNatClampNeg)]) (rest := []) ⟨hx, hb, hml, hown, hts⟩ hw hM173 hle_u_404 (fun _ _ => ⟨callB_of 1 hts (xgood w_1032) rfl rfl rfl (hts _ (xm w_8)) (hts _ (xm w_1029)) ⟨by decide, by decide, by decide +kernel⟩ ⟨Nat.le_of_ble_eq_true rfl, Nat.le_of_ble_eq_true rfl⟩, (hts _ (xm w_1030)), (hts _ (xm w_1031))⟩) (qc := (R_M, F_M, 14)) rfl rfl h174 rfl hl.1 rfl (Nat.le_of_ble_eq_true rfl) d_L_law_945 (fun H locs hw => ?_)
            refine W.eq (g2 := F0 m 948 ls [.int r_405]) rfl ?_
            refine lv_istore (lv' := [(6, .int r_405), (5, .int r_402), (0, .ref x0), (1, .ref x1), (2, .ref x2), (3, .ref x3), (4, .int x4)]) hx hb d_L_law_948 hl (by decide) rfl (fun ls hl => ?_)
            refine lv_aload_n hx hb d_L_law_950 rfl (lv_at hl 4 rfl) ?_
            refine xr_cV (As := []) (rest := []) ⟨hx, hb, hml, hown, hts⟩ hw hM175 hle_u_406 (fun _ _ => ⟨callB_of 0 hts (xgood w_915) rfl rfl rfl (hts _ (xm w_8)) (hts _ (xm w_912)) ⟨by decide, by decide, by decide +kernel⟩ ⟨Nat.le_of_ble_eq_true rfl, Nat.le_of_ble_eq_true rfl⟩, (hts _ (xm w_913)), (hts _ (xm w_914))⟩) (qc := (R_M, F_M, 14)) rfl rfl h176 rfl hl.1 rfl (Nat.le_of_ble_eq_true rfl) d_L_law_951 (fun H locs hw => ?_)
            refine W.eq (g2 := F0 m 954 ls [.int r_407]) rfl ?_
            refine lv_iload hx hb d_L_law_954 (lv_at hl 1 rfl) ?_
            refine lv_icmp_eq (tgt := 961) hx hb d_L_law_956 (by decide) (fun _ => ?_) (fun c9 => absurd hc177 c9)
            refine lv_iload hx hb d_L_law_961 (lv_at hl 1 rfl) ?_
            refine lv_if_ne (tgt := 978) hx hb d_L_law_963 (by decide) (fun _ => ?_) (fun c9 => absurd c9 hc178)
            exact w9 p e s m args below meth c A H locs ls F hX hw (lv_sub hl [2, 3, 4, 5, 6] rfl)
        · have k := k.2 hc177
          obtain ⟨rv, v9, hK, hle_u_406, w9⟩ := hE959 u_406 k
          have hle_u_404 : x_le u_404 v9 := (hM175.1).tr hle_u_406
          have hle_u_401 : x_le u_401 v9 := (hM173.1).tr hle_u_404
          have hle_u : x_le u v9 := (hM171.1).tr hle_u_401
          refine ⟨rv, v9, hK, hle_u, ?_⟩
          intro p e s m args below meth c A H locs ls F hX hw hl
          obtain ⟨⟨hx, hb, hml, hown, hts⟩, hr, hlocks, hmn⟩ := id F
          refine lv_iload hx hb d_L_law_23 (lv_at hl 4 rfl) ?_
          refine lv_aload_n hx hb d_L_law_25 rfl (lv_at hl 0 rfl) ?_
          refine xr_slen hx hb hX hw d_L_law_26 ?_
          refine lv_iconst (v := 5) hx hb d_L_law_27 (by decide) ?_
          refine lv_isub hx hb d_L_law_28 ?_
          refine lv_icmp_gt (tgt := 1385) hx hb d_L_law_29 (by decide) (fun c9 => absurd c9 hc2) (fun _ => ?_)
          refine lv_aload_n hx hb d_L_law_32 rfl (lv_at hl 0 rfl) ?_
          refine lv_iload hx hb d_L_law_33 (lv_at hl 4 rfl) ?_
          refine xr_sld hx hb hX hw h3 d_L_law_35 ?_
          refine lv_bipush (v := 31) hx hb d_L_law_36 (by decide) ?_
          refine lv_iand hx hb d_L_law_38 ?_
          refine lv_tableIn (off := 886) (tgt := 925) hx hb d_L_law_39 (by rw [hc17]; decide) (by rw [hc17]; decide) (by rw [hc17]; rfl) (by decide) ?_
          refine lv_aload_n hx hb d_L_law_925 rfl (lv_at hl 1 rfl) ?_
          refine lv_aload_n hx hb d_L_law_926 rfl (lv_at hl 0 rfl) ?_
          refine lv_iload hx hb d_L_law_927 (lv_at hl 4 rfl) ?_
          refine lv_iconst (v := 1) hx hb d_L_law_929 (by decide) ?_
          refine lv_iadd hx hb d_L_law_930 ?_
          refine xr_sld hx hb hX hw h170 d_L_law_931 ?_
          refine lv_aload_n hx hb d_L_law_932 rfl (lv_at hl 3 rfl) ?_
          refine xr_cSW (n := 3) (hh := hh_L_count) (As := [.ref x1, .int (xs (x4 + (1 : Int32)).toNatClampNeg), .ref x3]) (rest := []) ⟨hx, hb, hml, hown, hts⟩ hw hM171 hle_u_401 (xgood w_776) List.mem_cons_self (hts _ (xm w_0)) (hts _ (xm w_774)) (hts _ (xm w_775)) ⟨by decide, by decide, by decide +kernel⟩ ⟨Nat.le_of_ble_eq_true rfl, Nat.le_of_ble_eq_true rfl⟩ ⟨Nat.le_refl _, Nat.le_refl _⟩ rfl hl.1 rfl (Nat.le_of_ble_eq_true rfl) d_L_law_933 (fun H locs hw => ?_)
          refine W.eq (g2 := F0 m 936 ls [.int r_402]) rfl ?_
          refine lv_istore (lv' := [(5, .int r_402), (0, .ref x0), (1, .ref x1), (2, .ref x2), (3, .ref x3), (4, .int x4)]) hx hb d_L_law_936 hl (by decide) rfl (fun ls hl => ?_)
          refine lv_aload_n hx hb d_L_law_938 rfl (lv_at hl 3 rfl) ?_
          refine lv_aload_n hx hb d_L_law_939 rfl (lv_at hl 1 rfl) ?_
          refine lv_iload hx hb d_L_law_940 (lv_at hl 5 rfl) ?_
          refine lv_iconst (v := 1) hx hb d_L_law_942 (by decide) ?_
          refine lv_iadd hx hb d_L_law_943 ?_
          refine xr_sld hx hb hX hw h172 d_L_law_944 ?_
          refine xr_cV (As := [.int (xs (x4 + (1 : Int32)).toNatClampNeg)]) (rest := []) ⟨hx, hb, hml, hown, hts⟩ hw hM173 hle_u_404 (fun _ _ => ⟨callB_of 1 hts (xgood w_1032) rfl rfl rfl (hts _ (xm w_8)) (hts _ (xm w_1029)) ⟨by decide, by decide, by decide +kernel⟩ ⟨Nat.le_of_ble_eq_true rfl, Nat.le_of_ble_eq_true rfl⟩, (hts _ (xm w_1030)), (hts _ (xm w_1031))⟩) (qc := (R_M, F_M, 14)) rfl rfl h174 rfl hl.1 rfl (Nat.le_of_ble_eq_true rfl) d_L_law_945 (fun H locs hw => ?_)
          refine W.eq (g2 := F0 m 948 ls [.int r_405]) rfl ?_
          refine lv_istore (lv' := [(6, .int r_405), (5, .int r_402), (0, .ref x0), (1, .ref x1), (2, .ref x2), (3, .ref x3), (4, .int x4)]) hx hb d_L_law_948 hl (by decide) rfl (fun ls hl => ?_)
          refine lv_aload_n hx hb d_L_law_950 rfl (lv_at hl 4 rfl) ?_
          refine xr_cV (As := []) (rest := []) ⟨hx, hb, hml, hown, hts⟩ hw hM175 hle_u_406 (fun _ _ => ⟨callB_of 0 hts (xgood w_915) rfl rfl rfl (hts _ (xm w_8)) (hts _ (xm w_912)) ⟨by decide, by decide, by decide +kernel⟩ ⟨Nat.le_of_ble_eq_true rfl, Nat.le_of_ble_eq_true rfl⟩, (hts _ (xm w_913)), (hts _ (xm w_914))⟩) (qc := (R_M, F_M, 14)) rfl rfl h176 rfl hl.1 rfl (Nat.le_of_ble_eq_true rfl) d_L_law_951 (fun H locs hw => ?_)
          refine W.eq (g2 := F0 m 954 ls [.int r_407]) rfl ?_
          refine lv_iload hx hb d_L_law_954 (lv_at hl 1 rfl) ?_
          refine lv_icmp_eq (tgt := 961) hx hb d_L_law_956 (by decide) (fun c9 => absurd c9 hc177) (fun _ => ?_)
          exact w9 p e s m args below meth c A H locs ls F hX hw (lv_sub hl [] rfl)
      by_cases hc18 : ((xs x4.toNatClampNeg) &&& (31 : Int32)) = 14
      · have k := k.2.2.2.2.2.2.2.2.2.2.2.2.2.2.1 hc18
        obtain ⟨h181, k⟩ := k
        obtain ⟨h182, k⟩ := k
        obtain ⟨_, u_411, ⟨r_412, rfl, k⟩, hM183⟩ := c_L_value l Z x1 (xs (x4 + (1 : Int32)).toNatClampNeg) (xs (x4 + (2 : Int32)).toNatClampNeg) x3 u _ k
        obtain ⟨h184, k⟩ := k
        obtain ⟨h185, k⟩ := k
        obtain ⟨h187, k⟩ := k
        obtain ⟨_, u_415, ⟨r_416, rfl, k⟩, hM186⟩ := c_M_value l Z x2 (xs (x4 + (1 : Int32)).toNatClampNeg) (xs (x4 + (2 : Int32)).toNatClampNeg) u_411 _ k
        obtain ⟨h189, k⟩ := k
        obtain ⟨_, u_417, ⟨r_418, rfl, k⟩, hM188⟩ := c_M_thrown l Z x2 u_415 _ k
        by_cases hc190 : r_418 = r_412
        · have k := k.1 hc190
          by_cases hc191 : r_412 = 0
          · have k := k.2 hc191
            obtain ⟨z_419, h192, k⟩ := k
            by_cases hc193 : r_416 = 0
            · have k := k.1 hc193
              obtain ⟨rv, v9, hK, hle_u_417, w9⟩ := t_L_law_J1047 l Z u0 sL xs x0 x1 x2 x3 x4 z_419 (0 : Int64) u_417 ih hE175 hE223 hE295 hE367 hE439 hE511 hE599 hE671 hE722 hE739 hE778 hE795 hE811 hE847 hE864 hE903 hE920 hE959 hE976 hE1027 hE1051 hE1090 hE1107 hE1146 hE1163 hE1214 hE1238 hE1301 hE1318 hE1357 hE1374 hE1385 k
              have hle_u_415 : x_le u_415 v9 := (hM188.1).tr hle_u_417
              have hle_u_411 : x_le u_411 v9 := (hM186.1).tr hle_u_415
              have hle_u : x_le u v9 := (hM183.1).tr hle_u_411
              refine ⟨rv, v9, hK, hle_u, ?_⟩
              intro p e s m args below meth c A H locs ls F hX hw hl
              obtain ⟨⟨hx, hb, hml, hown, hts⟩, hr, hlocks, hmn⟩ := id F
              refine lv_iload hx hb d_L_law_23 (lv_at hl 4 rfl) ?_
              refine lv_aload_n hx hb d_L_law_25 rfl (lv_at hl 0 rfl) ?_
              refine xr_slen hx hb hX hw d_L_law_26 ?_
              refine lv_iconst (v := 5) hx hb d_L_law_27 (by decide) ?_
              refine lv_isub hx hb d_L_law_28 ?_
              refine lv_icmp_gt (tgt := 1385) hx hb d_L_law_29 (by decide) (fun c9 => absurd c9 hc2) (fun _ => ?_)
              refine lv_aload_n hx hb d_L_law_32 rfl (lv_at hl 0 rfl) ?_
              refine lv_iload hx hb d_L_law_33 (lv_at hl 4 rfl) ?_
              refine xr_sld hx hb hX hw h3 d_L_law_35 ?_
              refine lv_bipush (v := 31) hx hb d_L_law_36 (by decide) ?_
              refine lv_iand hx hb d_L_law_38 ?_
              refine lv_tableIn (off := 942) (tgt := 981) hx hb d_L_law_39 (by rw [hc18]; decide) (by rw [hc18]; decide) (by rw [hc18]; rfl) (by decide) ?_
              refine lv_aload_n hx hb d_L_law_981 rfl (lv_at hl 1 rfl) ?_
              refine lv_aload_n hx hb d_L_law_982 rfl (lv_at hl 0 rfl) ?_
              refine lv_iload hx hb d_L_law_983 (lv_at hl 4 rfl) ?_
              refine lv_iconst (v := 1) hx hb d_L_law_985 (by decide) ?_
              refine lv_iadd hx hb d_L_law_986 ?_
              refine xr_sld hx hb hX hw h181 d_L_law_987 ?_
              refine lv_aload_n hx hb d_L_law_988 rfl (lv_at hl 0 rfl) ?_
              refine lv_iload hx hb d_L_law_989 (lv_at hl 4 rfl) ?_
              refine lv_iconst (v := 2) hx hb d_L_law_991 (by decide) ?_
              refine lv_iadd hx hb d_L_law_992 ?_
              refine xr_sld hx hb hX hw h182 d_L_law_993 ?_
              refine lv_aload_n hx hb d_L_law_994 rfl (lv_at hl 3 rfl) ?_
              refine xr_cSW (n := 4) (hh := hh_L_value) (As := [.ref x1, .int (xs (x4 + (1 : Int32)).toNatClampNeg), .int (xs (x4 + (2 : Int32)).toNatClampNeg), .ref x3]) (rest := []) ⟨hx, hb, hml, hown, hts⟩ hw hM183 hle_u_411 (xgood w_794) List.mem_cons_self (hts _ (xm w_0)) (hts _ (xm w_792)) (hts _ (xm w_793)) ⟨by decide, by decide, by decide +kernel⟩ ⟨Nat.le_of_ble_eq_true rfl, Nat.le_of_ble_eq_true rfl⟩ ⟨Nat.le_refl _, Nat.le_refl _⟩ rfl hl.1 rfl (Nat.le_of_ble_eq_true rfl) d_L_law_995 (fun H locs hw => ?_)
              refine W.eq (g2 := F0 m 998 ls [.int r_412]) rfl ?_
              refine lv_istore (lv' := [(5, .int r_412), (0, .ref x0), (1, .ref x1), (2, .ref x2), (3, .ref x3), (4, .int x4)]) hx hb d_L_law_998 hl (by decide) rfl (fun ls hl => ?_)
              refine lv_aload_n hx hb d_L_law_1000 rfl (lv_at hl 3 rfl) ?_
              refine lv_aload_n hx hb d_L_law_1001 rfl (lv_at hl 1 rfl) ?_
              refine lv_iload hx hb d_L_law_1002 (lv_at hl 5 rfl) ?_
              refine lv_iconst (v := 1) hx hb d_L_law_1004 (by decide) ?_
              refine lv_iadd hx hb d_L_law_1005 ?_
              refine xr_sld hx hb hX hw h184 d_L_law_1006 ?_
              refine lv_aload_n hx hb d_L_law_1007 rfl (lv_at hl 1 rfl) ?_
              refine lv_iload hx hb d_L_law_1008 (lv_at hl 5 rfl) ?_
              refine lv_iconst (v := 2) hx hb d_L_law_1010 (by decide) ?_
              refine lv_iadd hx hb d_L_law_1011 ?_
              refine xr_sld hx hb hX hw h185 d_L_law_1012 ?_
              refine xr_cV (As := [.int (xs (x4 + (1 : Int32)).toNatClampNeg), .int (xs (x4 + (2 : Int32)).toNatClampNeg)]) (rest := []) ⟨hx, hb, hml, hown, hts⟩ hw hM186 hle_u_415 (fun _ _ => ⟨callB_of 2 hts (xgood w_1036) rfl rfl rfl (hts _ (xm w_8)) (hts _ (xm w_1033)) ⟨by decide, by decide, by decide +kernel⟩ ⟨Nat.le_of_ble_eq_true rfl, Nat.le_of_ble_eq_true rfl⟩, (hts _ (xm w_1034)), (hts _ (xm w_1035))⟩) (qc := (R_M, F_M, 14)) rfl rfl h187 rfl hl.1 rfl (Nat.le_of_ble_eq_true rfl) d_L_law_1013 (fun H locs hw => ?_)
              refine W.eq (g2 := F0 m 1016 ls [.int r_416]) rfl ?_
              refine lv_istore (lv' := [(6, .int r_416), (5, .int r_412), (0, .ref x0), (1, .ref x1), (2, .ref x2), (3, .ref x3), (4, .int x4)]) hx hb d_L_law_1016 hl (by decide) rfl (fun ls hl => ?_)
              refine lv_aload_n hx hb d_L_law_1018 rfl (lv_at hl 4 rfl) ?_
              refine xr_cV (As := []) (rest := []) ⟨hx, hb, hml, hown, hts⟩ hw hM188 hle_u_417 (fun _ _ => ⟨callB_of 0 hts (xgood w_915) rfl rfl rfl (hts _ (xm w_8)) (hts _ (xm w_912)) ⟨by decide, by decide, by decide +kernel⟩ ⟨Nat.le_of_ble_eq_true rfl, Nat.le_of_ble_eq_true rfl⟩, (hts _ (xm w_913)), (hts _ (xm w_914))⟩) (qc := (R_M, F_M, 14)) rfl rfl h189 rfl hl.1 rfl (Nat.le_of_ble_eq_true rfl) d_L_law_1019 (fun H locs hw => ?_)
              refine W.eq (g2 := F0 m 1022 ls [.int r_418]) rfl ?_
              refine lv_iload hx hb d_L_law_1022 (lv_at hl 1 rfl) ?_
              refine lv_icmp_eq (tgt := 1029) hx hb d_L_law_1024 (by decide) (fun _ => ?_) (fun c9 => absurd hc190 c9)
              refine lv_iload hx hb d_L_law_1029 (lv_at hl 1 rfl) ?_
              refine lv_if_ne (tgt := 1053) hx hb d_L_law_1031 (by decide) (fun c9 => absurd hc191 c9) (fun _ => ?_)
              refine lv_aload_n hx hb d_L_law_1034 rfl (lv_at hl 5 rfl) ?_
              refine lv_iconst (v := 0) hx hb d_L_law_1035 (by decide) ?_
              refine xr_lald hx hb hw h192 d_L_law_1036 ?_
              refine lv_iload hx hb d_L_law_1037 (lv_at hl 0 rfl) ?_
              refine lv_if_eq (tgt := 1046) hx hb d_L_law_1039 (by decide) (fun _ => ?_) (fun c9 => absurd hc193 c9)
              refine lv_lconst (v := 0) hx hb d_L_law_1046 (by decide) ?_
              exact w9 p e s m args below meth c A H locs ls F hX hw (lv_sub hl [2, 3, 4, 5, 6] rfl)
            · have k := k.2 hc193
              obtain ⟨rv, v9, hK, hle_u_417, w9⟩ := t_L_law_J1047 l Z u0 sL xs x0 x1 x2 x3 x4 z_419 (1 : Int64) u_417 ih hE175 hE223 hE295 hE367 hE439 hE511 hE599 hE671 hE722 hE739 hE778 hE795 hE811 hE847 hE864 hE903 hE920 hE959 hE976 hE1027 hE1051 hE1090 hE1107 hE1146 hE1163 hE1214 hE1238 hE1301 hE1318 hE1357 hE1374 hE1385 k
              have hle_u_415 : x_le u_415 v9 := (hM188.1).tr hle_u_417
              have hle_u_411 : x_le u_411 v9 := (hM186.1).tr hle_u_415
              have hle_u : x_le u v9 := (hM183.1).tr hle_u_411
              refine ⟨rv, v9, hK, hle_u, ?_⟩
              intro p e s m args below meth c A H locs ls F hX hw hl
              obtain ⟨⟨hx, hb, hml, hown, hts⟩, hr, hlocks, hmn⟩ := id F
              refine lv_iload hx hb d_L_law_23 (lv_at hl 4 rfl) ?_
              refine lv_aload_n hx hb d_L_law_25 rfl (lv_at hl 0 rfl) ?_
              refine xr_slen hx hb hX hw d_L_law_26 ?_
              refine lv_iconst (v := 5) hx hb d_L_law_27 (by decide) ?_
              refine lv_isub hx hb d_L_law_28 ?_
              refine lv_icmp_gt (tgt := 1385) hx hb d_L_law_29 (by decide) (fun c9 => absurd c9 hc2) (fun _ => ?_)
              refine lv_aload_n hx hb d_L_law_32 rfl (lv_at hl 0 rfl) ?_
              refine lv_iload hx hb d_L_law_33 (lv_at hl 4 rfl) ?_
              refine xr_sld hx hb hX hw h3 d_L_law_35 ?_
              refine lv_bipush (v := 31) hx hb d_L_law_36 (by decide) ?_
              refine lv_iand hx hb d_L_law_38 ?_
              refine lv_tableIn (off := 942) (tgt := 981) hx hb d_L_law_39 (by rw [hc18]; decide) (by rw [hc18]; decide) (by rw [hc18]; rfl) (by decide) ?_
              refine lv_aload_n hx hb d_L_law_981 rfl (lv_at hl 1 rfl) ?_
              refine lv_aload_n hx hb d_L_law_982 rfl (lv_at hl 0 rfl) ?_
              refine lv_iload hx hb d_L_law_983 (lv_at hl 4 rfl) ?_
              refine lv_iconst (v := 1) hx hb d_L_law_985 (by decide) ?_
              refine lv_iadd hx hb d_L_law_986 ?_
              refine xr_sld hx hb hX hw h181 d_L_law_987 ?_
              refine lv_aload_n hx hb d_L_law_988 rfl (lv_at hl 0 rfl) ?_
              refine lv_iload hx hb d_L_law_989 (lv_at hl 4 rfl) ?_
              refine lv_iconst (v := 2) hx hb d_L_law_991 (by decide) ?_
              refine lv_iadd hx hb d_L_law_992 ?_
              refine xr_sld hx hb hX hw h182 d_L_law_993 ?_
              refine lv_aload_n hx hb d_L_law_994 rfl (lv_at hl 3 rfl) ?_
              refine xr_cSW (n := 4) (hh := hh_L_value) (As := [.ref x1, .int (xs (x4 + (1 : Int32)).toNatClampNeg), .int (xs (x4 + (2 : Int32)).toNatClampNeg), .ref x3]) (rest := []) ⟨hx, hb, hml, hown, hts⟩ hw hM183 hle_u_411 (xgood w_794) List.mem_cons_self (hts _ (xm w_0)) (hts _ (xm w_792)) (hts _ (xm w_793)) ⟨by decide, by decide, by decide +kernel⟩ ⟨Nat.le_of_ble_eq_true rfl, Nat.le_of_ble_eq_true rfl⟩ ⟨Nat.le_refl _, Nat.le_refl _⟩ rfl hl.1 rfl (Nat.le_of_ble_eq_true rfl) d_L_law_995 (fun H locs hw => ?_)
              refine W.eq (g2 := F0 m 998 ls [.int r_412]) rfl ?_
              refine lv_istore (lv' := [(5, .int r_412), (0, .ref x0), (1, .ref x1), (2, .ref x2), (3, .ref x3), (4, .int x4)]) hx hb d_L_law_998 hl (by decide) rfl (fun ls hl => ?_)
              refine lv_aload_n hx hb d_L_law_1000 rfl (lv_at hl 3 rfl) ?_
              refine lv_aload_n hx hb d_L_law_1001 rfl (lv_at hl 1 rfl) ?_
              refine lv_iload hx hb d_L_law_1002 (lv_at hl 5 rfl) ?_
              refine lv_iconst (v := 1) hx hb d_L_law_1004 (by decide) ?_
              refine lv_iadd hx hb d_L_law_1005 ?_
              refine xr_sld hx hb hX hw h184 d_L_law_1006 ?_
              refine lv_aload_n hx hb d_L_law_1007 rfl (lv_at hl 1 rfl) ?_
              refine lv_iload hx hb d_L_law_1008 (lv_at hl 5 rfl) ?_
              refine lv_iconst (v := 2) hx hb d_L_law_1010 (by decide) ?_
              refine lv_iadd hx hb d_L_law_1011 ?_
              refine xr_sld hx hb hX hw h185 d_L_law_1012 ?_
              refine xr_cV (As := [.int (xs (x4 + (1 : Int32)).toNatClampNeg), .int (xs (x4 + (2 : Int32)).toNatClampNeg)]) (rest := []) ⟨hx, hb, hml, hown, hts⟩ hw hM186 hle_u_415 (fun _ _ => ⟨callB_of 2 hts (xgood w_1036) rfl rfl rfl (hts _ (xm w_8)) (hts _ (xm w_1033)) ⟨by decide, by decide, by decide +kernel⟩ ⟨Nat.le_of_ble_eq_true rfl, Nat.le_of_ble_eq_true rfl⟩, (hts _ (xm w_1034)), (hts _ (xm w_1035))⟩) (qc := (R_M, F_M, 14)) rfl rfl h187 rfl hl.1 rfl (Nat.le_of_ble_eq_true rfl) d_L_law_1013 (fun H locs hw => ?_)
              refine W.eq (g2 := F0 m 1016 ls [.int r_416]) rfl ?_
              refine lv_istore (lv' := [(6, .int r_416), (5, .int r_412), (0, .ref x0), (1, .ref x1), (2, .ref x2), (3, .ref x3), (4, .int x4)]) hx hb d_L_law_1016 hl (by decide) rfl (fun ls hl => ?_)
              refine lv_aload_n hx hb d_L_law_1018 rfl (lv_at hl 4 rfl) ?_
              refine xr_cV (As := []) (rest := []) ⟨hx, hb, hml, hown, hts⟩ hw hM188 hle_u_417 (fun _ _ => ⟨callB_of 0 hts (xgood w_915) rfl rfl rfl (hts _ (xm w_8)) (hts _ (xm w_912)) ⟨by decide, by decide, by decide +kernel⟩ ⟨Nat.le_of_ble_eq_true rfl, Nat.le_of_ble_eq_true rfl⟩, (hts _ (xm w_913)), (hts _ (xm w_914))⟩) (qc := (R_M, F_M, 14)) rfl rfl h189 rfl hl.1 rfl (Nat.le_of_ble_eq_true rfl) d_L_law_1019 (fun H locs hw => ?_)
              refine W.eq (g2 := F0 m 1022 ls [.int r_418]) rfl ?_
              refine lv_iload hx hb d_L_law_1022 (lv_at hl 1 rfl) ?_
              refine lv_icmp_eq (tgt := 1029) hx hb d_L_law_1024 (by decide) (fun _ => ?_) (fun c9 => absurd hc190 c9)
              refine lv_iload hx hb d_L_law_1029 (lv_at hl 1 rfl) ?_
              refine lv_if_ne (tgt := 1053) hx hb d_L_law_1031 (by decide) (fun c9 => absurd hc191 c9) (fun _ => ?_)
              refine lv_aload_n hx hb d_L_law_1034 rfl (lv_at hl 5 rfl) ?_
              refine lv_iconst (v := 0) hx hb d_L_law_1035 (by decide) ?_
              refine xr_lald hx hb hw h192 d_L_law_1036 ?_
              refine lv_iload hx hb d_L_law_1037 (lv_at hl 0 rfl) ?_
              refine lv_if_eq (tgt := 1046) hx hb d_L_law_1039 (by decide) (fun c9 => absurd c9 hc193) (fun _ => ?_)
              refine lv_lconst (v := 1) hx hb d_L_law_1042 (by decide) ?_
              refine lv_goto (tgt := 1047) hx hb d_L_law_1043 (by decide) ?_
              exact w9 p e s m args below meth c A H locs ls F hX hw (lv_sub hl [2, 3, 4, 5, 6] rfl)
          · have k := k.1 hc191
            obtain ⟨rv, v9, hK, hle_u_417, w9⟩ := t_L_law_J1053 l Z u0 sL xs x0 x1 x2 x3 x4 u_417 ih hE175 hE223 hE295 hE367 hE439 hE511 hE599 hE671 hE722 hE739 hE778 hE795 hE811 hE847 hE864 hE903 hE920 hE959 hE976 hE1027 hE1051 hE1090 hE1107 hE1146 hE1163 hE1214 hE1238 hE1301 hE1318 hE1357 hE1374 hE1385 k
            have hle_u_415 : x_le u_415 v9 := (hM188.1).tr hle_u_417
            have hle_u_411 : x_le u_411 v9 := (hM186.1).tr hle_u_415
            have hle_u : x_le u v9 := (hM183.1).tr hle_u_411
            refine ⟨rv, v9, hK, hle_u, ?_⟩
            intro p e s m args below meth c A H locs ls F hX hw hl
            obtain ⟨⟨hx, hb, hml, hown, hts⟩, hr, hlocks, hmn⟩ := id F
            refine lv_iload hx hb d_L_law_23 (lv_at hl 4 rfl) ?_
            refine lv_aload_n hx hb d_L_law_25 rfl (lv_at hl 0 rfl) ?_
            refine xr_slen hx hb hX hw d_L_law_26 ?_
            refine lv_iconst (v := 5) hx hb d_L_law_27 (by decide) ?_
            refine lv_isub hx hb d_L_law_28 ?_
            refine lv_icmp_gt (tgt := 1385) hx hb d_L_law_29 (by decide) (fun c9 => absurd c9 hc2) (fun _ => ?_)
            refine lv_aload_n hx hb d_L_law_32 rfl (lv_at hl 0 rfl) ?_
            refine lv_iload hx hb d_L_law_33 (lv_at hl 4 rfl) ?_
            refine xr_sld hx hb hX hw h3 d_L_law_35 ?_
            refine lv_bipush (v := 31) hx hb d_L_law_36 (by decide) ?_
            refine lv_iand hx hb d_L_law_38 ?_
            refine lv_tableIn (off := 942) (tgt := 981) hx hb d_L_law_39 (by rw [hc18]; decide) (by rw [hc18]; decide) (by rw [hc18]; rfl) (by decide) ?_
            refine lv_aload_n hx hb d_L_law_981 rfl (lv_at hl 1 rfl) ?_
            refine lv_aload_n hx hb d_L_law_982 rfl (lv_at hl 0 rfl) ?_
            refine lv_iload hx hb d_L_law_983 (lv_at hl 4 rfl) ?_
            refine lv_iconst (v := 1) hx hb d_L_law_985 (by decide) ?_
            refine lv_iadd hx hb d_L_law_986 ?_
            refine xr_sld hx hb hX hw h181 d_L_law_987 ?_
            refine lv_aload_n hx hb d_L_law_988 rfl (lv_at hl 0 rfl) ?_
            refine lv_iload hx hb d_L_law_989 (lv_at hl 4 rfl) ?_
            refine lv_iconst (v := 2) hx hb d_L_law_991 (by decide) ?_
            refine lv_iadd hx hb d_L_law_992 ?_
            refine xr_sld hx hb hX hw h182 d_L_law_993 ?_
            refine lv_aload_n hx hb d_L_law_994 rfl (lv_at hl 3 rfl) ?_
            refine xr_cSW (n := 4) (hh := hh_L_value) (As := [.ref x1, .int (xs (x4 + (1 : Int32)).toNatClampNeg), .int (xs (x4 + (2 : Int32)).toNatClampNeg), .ref x3]) (rest := []) ⟨hx, hb, hml, hown, hts⟩ hw hM183 hle_u_411 (xgood w_794) List.mem_cons_self (hts _ (xm w_0)) (hts _ (xm w_792)) (hts _ (xm w_793)) ⟨by decide, by decide, by decide +kernel⟩ ⟨Nat.le_of_ble_eq_true rfl, Nat.le_of_ble_eq_true rfl⟩ ⟨Nat.le_refl _, Nat.le_refl _⟩ rfl hl.1 rfl (Nat.le_of_ble_eq_true rfl) d_L_law_995 (fun H locs hw => ?_)
            refine W.eq (g2 := F0 m 998 ls [.int r_412]) rfl ?_
            refine lv_istore (lv' := [(5, .int r_412), (0, .ref x0), (1, .ref x1), (2, .ref x2), (3, .ref x3), (4, .int x4)]) hx hb d_L_law_998 hl (by decide) rfl (fun ls hl => ?_)
            refine lv_aload_n hx hb d_L_law_1000 rfl (lv_at hl 3 rfl) ?_
            refine lv_aload_n hx hb d_L_law_1001 rfl (lv_at hl 1 rfl) ?_
            refine lv_iload hx hb d_L_law_1002 (lv_at hl 5 rfl) ?_
            refine lv_iconst (v := 1) hx hb d_L_law_1004 (by decide) ?_
            refine lv_iadd hx hb d_L_law_1005 ?_
            refine xr_sld hx hb hX hw h184 d_L_law_1006 ?_
            refine lv_aload_n hx hb d_L_law_1007 rfl (lv_at hl 1 rfl) ?_
            refine lv_iload hx hb d_L_law_1008 (lv_at hl 5 rfl) ?_
            refine lv_iconst (v := 2) hx hb d_L_law_1010 (by decide) ?_
            refine lv_iadd hx hb d_L_law_1011 ?_
            refine xr_sld hx hb hX hw h185 d_L_law_1012 ?_
            refine xr_cV (As := [.int (xs (x4 + (1 : Int32)).toNatClampNeg), .int (xs (x4 + (2 : Int32)).toNatClampNeg)]) (rest := []) ⟨hx, hb, hml, hown, hts⟩ hw hM186 hle_u_415 (fun _ _ => ⟨callB_of 2 hts (xgood w_1036) rfl rfl rfl (hts _ (xm w_8)) (hts _ (xm w_1033)) ⟨by decide, by decide, by decide +kernel⟩ ⟨Nat.le_of_ble_eq_true rfl, Nat.le_of_ble_eq_true rfl⟩, (hts _ (xm w_1034)), (hts _ (xm w_1035))⟩) (qc := (R_M, F_M, 14)) rfl rfl h187 rfl hl.1 rfl (Nat.le_of_ble_eq_true rfl) d_L_law_1013 (fun H locs hw => ?_)
            refine W.eq (g2 := F0 m 1016 ls [.int r_416]) rfl ?_
            refine lv_istore (lv' := [(6, .int r_416), (5, .int r_412), (0, .ref x0), (1, .ref x1), (2, .ref x2), (3, .ref x3), (4, .int x4)]) hx hb d_L_law_1016 hl (by decide) rfl (fun ls hl => ?_)
            refine lv_aload_n hx hb d_L_law_1018 rfl (lv_at hl 4 rfl) ?_
            refine xr_cV (As := []) (rest := []) ⟨hx, hb, hml, hown, hts⟩ hw hM188 hle_u_417 (fun _ _ => ⟨callB_of 0 hts (xgood w_915) rfl rfl rfl (hts _ (xm w_8)) (hts _ (xm w_912)) ⟨by decide, by decide, by decide +kernel⟩ ⟨Nat.le_of_ble_eq_true rfl, Nat.le_of_ble_eq_true rfl⟩, (hts _ (xm w_913)), (hts _ (xm w_914))⟩) (qc := (R_M, F_M, 14)) rfl rfl h189 rfl hl.1 rfl (Nat.le_of_ble_eq_true rfl) d_L_law_1019 (fun H locs hw => ?_)
            refine W.eq (g2 := F0 m 1022 ls [.int r_418]) rfl ?_
            refine lv_iload hx hb d_L_law_1022 (lv_at hl 1 rfl) ?_
            refine lv_icmp_eq (tgt := 1029) hx hb d_L_law_1024 (by decide) (fun _ => ?_) (fun c9 => absurd hc190 c9)
            refine lv_iload hx hb d_L_law_1029 (lv_at hl 1 rfl) ?_
            refine lv_if_ne (tgt := 1053) hx hb d_L_law_1031 (by decide) (fun _ => ?_) (fun c9 => absurd c9 hc191)
            exact w9 p e s m args below meth c A H locs ls F hX hw (lv_sub hl [2, 3, 4, 5, 6] rfl)
        · have k := k.2 hc190
          obtain ⟨rv, v9, hK, hle_u_417, w9⟩ := hE1027 u_417 k
          have hle_u_415 : x_le u_415 v9 := (hM188.1).tr hle_u_417
          have hle_u_411 : x_le u_411 v9 := (hM186.1).tr hle_u_415
          have hle_u : x_le u v9 := (hM183.1).tr hle_u_411
          refine ⟨rv, v9, hK, hle_u, ?_⟩
          intro p e s m args below meth c A H locs ls F hX hw hl
          obtain ⟨⟨hx, hb, hml, hown, hts⟩, hr, hlocks, hmn⟩ := id F
          refine lv_iload hx hb d_L_law_23 (lv_at hl 4 rfl) ?_
          refine lv_aload_n hx hb d_L_law_25 rfl (lv_at hl 0 rfl) ?_
          refine xr_slen hx hb hX hw d_L_law_26 ?_
          refine lv_iconst (v := 5) hx hb d_L_law_27 (by decide) ?_
          refine lv_isub hx hb d_L_law_28 ?_
          refine lv_icmp_gt (tgt := 1385) hx hb d_L_law_29 (by decide) (fun c9 => absurd c9 hc2) (fun _ => ?_)
          refine lv_aload_n hx hb d_L_law_32 rfl (lv_at hl 0 rfl) ?_
          refine lv_iload hx hb d_L_law_33 (lv_at hl 4 rfl) ?_
          refine xr_sld hx hb hX hw h3 d_L_law_35 ?_
          refine lv_bipush (v := 31) hx hb d_L_law_36 (by decide) ?_
          refine lv_iand hx hb d_L_law_38 ?_
          refine lv_tableIn (off := 942) (tgt := 981) hx hb d_L_law_39 (by rw [hc18]; decide) (by rw [hc18]; decide) (by rw [hc18]; rfl) (by decide) ?_
          refine lv_aload_n hx hb d_L_law_981 rfl (lv_at hl 1 rfl) ?_
          refine lv_aload_n hx hb d_L_law_982 rfl (lv_at hl 0 rfl) ?_
          refine lv_iload hx hb d_L_law_983 (lv_at hl 4 rfl) ?_
          refine lv_iconst (v := 1) hx hb d_L_law_985 (by decide) ?_
          refine lv_iadd hx hb d_L_law_986 ?_
          refine xr_sld hx hb hX hw h181 d_L_law_987 ?_
          refine lv_aload_n hx hb d_L_law_988 rfl (lv_at hl 0 rfl) ?_
          refine lv_iload hx hb d_L_law_989 (lv_at hl 4 rfl) ?_
          refine lv_iconst (v := 2) hx hb d_L_law_991 (by decide) ?_
          refine lv_iadd hx hb d_L_law_992 ?_
          refine xr_sld hx hb hX hw h182 d_L_law_993 ?_
          refine lv_aload_n hx hb d_L_law_994 rfl (lv_at hl 3 rfl) ?_
          refine xr_cSW (n := 4) (hh := hh_L_value) (As := [.ref x1, .int (xs (x4 + (1 : Int32)).toNatClampNeg), .int (xs (x4 + (2 : Int32)).toNatClampNeg), .ref x3]) (rest := []) ⟨hx, hb, hml, hown, hts⟩ hw hM183 hle_u_411 (xgood w_794) List.mem_cons_self (hts _ (xm w_0)) (hts _ (xm w_792)) (hts _ (xm w_793)) ⟨by decide, by decide, by decide +kernel⟩ ⟨Nat.le_of_ble_eq_true rfl, Nat.le_of_ble_eq_true rfl⟩ ⟨Nat.le_refl _, Nat.le_refl _⟩ rfl hl.1 rfl (Nat.le_of_ble_eq_true rfl) d_L_law_995 (fun H locs hw => ?_)
          refine W.eq (g2 := F0 m 998 ls [.int r_412]) rfl ?_
          refine lv_istore (lv' := [(5, .int r_412), (0, .ref x0), (1, .ref x1), (2, .ref x2), (3, .ref x3), (4, .int x4)]) hx hb d_L_law_998 hl (by decide) rfl (fun ls hl => ?_)
          refine lv_aload_n hx hb d_L_law_1000 rfl (lv_at hl 3 rfl) ?_
          refine lv_aload_n hx hb d_L_law_1001 rfl (lv_at hl 1 rfl) ?_
          refine lv_iload hx hb d_L_law_1002 (lv_at hl 5 rfl) ?_
          refine lv_iconst (v := 1) hx hb d_L_law_1004 (by decide) ?_
          refine lv_iadd hx hb d_L_law_1005 ?_
          refine xr_sld hx hb hX hw h184 d_L_law_1006 ?_
          refine lv_aload_n hx hb d_L_law_1007 rfl (lv_at hl 1 rfl) ?_
          refine lv_iload hx hb d_L_law_1008 (lv_at hl 5 rfl) ?_
          refine lv_iconst (v := 2) hx hb d_L_law_1010 (by decide) ?_
          refine lv_iadd hx hb d_L_law_1011 ?_
          refine xr_sld hx hb hX hw h185 d_L_law_1012 ?_
          refine xr_cV (As := [.int (xs (x4 + (1 : Int32)).toNatClampNeg), .int (xs (x4 + (2 : Int32)).toNatClampNeg)]) (rest := []) ⟨hx, hb, hml, hown, hts⟩ hw hM186 hle_u_415 (fun _ _ => ⟨callB_of 2 hts (xgood w_1036) rfl rfl rfl (hts _ (xm w_8)) (hts _ (xm w_1033)) ⟨by decide, by decide, by decide +kernel⟩ ⟨Nat.le_of_ble_eq_true rfl, Nat.le_of_ble_eq_true rfl⟩, (hts _ (xm w_1034)), (hts _ (xm w_1035))⟩) (qc := (R_M, F_M, 14)) rfl rfl h187 rfl hl.1 rfl (Nat.le_of_ble_eq_true rfl) d_L_law_1013 (fun H locs hw => ?_)
          refine W.eq (g2 := F0 m 1016 ls [.int r_416]) rfl ?_
          refine lv_istore (lv' := [(6, .int r_416), (5, .int r_412), (0, .ref x0), (1, .ref x1), (2, .ref x2), (3, .ref x3), (4, .int x4)]) hx hb d_L_law_1016 hl (by decide) rfl (fun ls hl => ?_)
          refine lv_aload_n hx hb d_L_law_1018 rfl (lv_at hl 4 rfl) ?_
          refine xr_cV (As := []) (rest := []) ⟨hx, hb, hml, hown, hts⟩ hw hM188 hle_u_417 (fun _ _ => ⟨callB_of 0 hts (xgood w_915) rfl rfl rfl (hts _ (xm w_8)) (hts _ (xm w_912)) ⟨by decide, by decide, by decide +kernel⟩ ⟨Nat.le_of_ble_eq_true rfl, Nat.le_of_ble_eq_true rfl⟩, (hts _ (xm w_913)), (hts _ (xm w_914))⟩) (qc := (R_M, F_M, 14)) rfl rfl h189 rfl hl.1 rfl (Nat.le_of_ble_eq_true rfl) d_L_law_1019 (fun H locs hw => ?_)
          refine W.eq (g2 := F0 m 1022 ls [.int r_418]) rfl ?_
          refine lv_iload hx hb d_L_law_1022 (lv_at hl 1 rfl) ?_
          refine lv_icmp_eq (tgt := 1029) hx hb d_L_law_1024 (by decide) (fun c9 => absurd c9 hc190) (fun _ => ?_)
          exact w9 p e s m args below meth c A H locs ls F hX hw (lv_sub hl [] rfl)
      by_cases hc19 : ((xs x4.toNatClampNeg) &&& (31 : Int32)) = 15
      · have k := k.2.2.2.2.2.2.2.2.2.2.2.2.2.2.2.1 hc19
        obtain ⟨h194, k⟩ := k
        obtain ⟨_, u_421, ⟨r_422, rfl, k⟩, hM195⟩ := c_L_least l Z x1 (xs (x4 + (1 : Int32)).toNatClampNeg) x3 u _ k
        obtain ⟨h196, k⟩ := k
        obtain ⟨h198, k⟩ := k
        obtain ⟨_, u_424, ⟨r_425, rfl, k⟩, hM197⟩ := c_M_least l Z x2 (xs (x4 + (1 : Int32)).toNatClampNeg) u_421 _ k
        obtain ⟨h200, k⟩ := k
        obtain ⟨_, u_426, ⟨r_427, rfl, k⟩, hM199⟩ := c_M_thrown l Z x2 u_424 _ k
        by_cases hc201 : r_427 = r_422
        · have k := k.1 hc201
          by_cases hc202 : r_422 = 0
          · have k := k.2 hc202
            obtain ⟨z_428, h203, k⟩ := k
            by_cases hc204 : (lg_cmp z_428 (r_425.toInt64)) = 0
            · have k := k.1 hc204
              obtain ⟨rv, v9, hK, hle_u_426, w9⟩ := t_L_law_J1109 l Z u0 sL xs x0 x1 x2 x3 x4 u_426 ih hE175 hE223 hE295 hE367 hE439 hE511 hE599 hE671 hE722 hE739 hE778 hE795 hE811 hE847 hE864 hE903 hE920 hE959 hE976 hE1027 hE1051 hE1090 hE1107 hE1146 hE1163 hE1214 hE1238 hE1301 hE1318 hE1357 hE1374 hE1385 k
              have hle_u_424 : x_le u_424 v9 := (hM199.1).tr hle_u_426
              have hle_u_421 : x_le u_421 v9 := (hM197.1).tr hle_u_424
              have hle_u : x_le u v9 := (hM195.1).tr hle_u_421
              refine ⟨rv, v9, hK, hle_u, ?_⟩
              intro p e s m args below meth c A H locs ls F hX hw hl
              obtain ⟨⟨hx, hb, hml, hown, hts⟩, hr, hlocks, hmn⟩ := id F
              refine lv_iload hx hb d_L_law_23 (lv_at hl 4 rfl) ?_
              refine lv_aload_n hx hb d_L_law_25 rfl (lv_at hl 0 rfl) ?_
              refine xr_slen hx hb hX hw d_L_law_26 ?_
              refine lv_iconst (v := 5) hx hb d_L_law_27 (by decide) ?_
              refine lv_isub hx hb d_L_law_28 ?_
              refine lv_icmp_gt (tgt := 1385) hx hb d_L_law_29 (by decide) (fun c9 => absurd c9 hc2) (fun _ => ?_)
              refine lv_aload_n hx hb d_L_law_32 rfl (lv_at hl 0 rfl) ?_
              refine lv_iload hx hb d_L_law_33 (lv_at hl 4 rfl) ?_
              refine xr_sld hx hb hX hw h3 d_L_law_35 ?_
              refine lv_bipush (v := 31) hx hb d_L_law_36 (by decide) ?_
              refine lv_iand hx hb d_L_law_38 ?_
              refine lv_tableIn (off := 1017) (tgt := 1056) hx hb d_L_law_39 (by rw [hc19]; decide) (by rw [hc19]; decide) (by rw [hc19]; rfl) (by decide) ?_
              refine lv_aload_n hx hb d_L_law_1056 rfl (lv_at hl 1 rfl) ?_
              refine lv_aload_n hx hb d_L_law_1057 rfl (lv_at hl 0 rfl) ?_
              refine lv_iload hx hb d_L_law_1058 (lv_at hl 4 rfl) ?_
              refine lv_iconst (v := 1) hx hb d_L_law_1060 (by decide) ?_
              refine lv_iadd hx hb d_L_law_1061 ?_
              refine xr_sld hx hb hX hw h194 d_L_law_1062 ?_
              refine lv_aload_n hx hb d_L_law_1063 rfl (lv_at hl 3 rfl) ?_
              refine xr_cSW (n := 3) (hh := hh_L_least) (As := [.ref x1, .int (xs (x4 + (1 : Int32)).toNatClampNeg), .ref x3]) (rest := []) ⟨hx, hb, hml, hown, hts⟩ hw hM195 hle_u_421 (xgood w_802) List.mem_cons_self (hts _ (xm w_0)) (hts _ (xm w_800)) (hts _ (xm w_801)) ⟨by decide, by decide, by decide +kernel⟩ ⟨Nat.le_of_ble_eq_true rfl, Nat.le_of_ble_eq_true rfl⟩ ⟨Nat.le_refl _, Nat.le_refl _⟩ rfl hl.1 rfl (Nat.le_of_ble_eq_true rfl) d_L_law_1064 (fun H locs hw => ?_)
              refine W.eq (g2 := F0 m 1067 ls [.int r_422]) rfl ?_
              refine lv_istore (lv' := [(5, .int r_422), (0, .ref x0), (1, .ref x1), (2, .ref x2), (3, .ref x3), (4, .int x4)]) hx hb d_L_law_1067 hl (by decide) rfl (fun ls hl => ?_)
              refine lv_aload_n hx hb d_L_law_1069 rfl (lv_at hl 3 rfl) ?_
              refine lv_aload_n hx hb d_L_law_1070 rfl (lv_at hl 1 rfl) ?_
              refine lv_iload hx hb d_L_law_1071 (lv_at hl 5 rfl) ?_
              refine lv_iconst (v := 1) hx hb d_L_law_1073 (by decide) ?_
              refine lv_iadd hx hb d_L_law_1074 ?_
              refine xr_sld hx hb hX hw h196 d_L_law_1075 ?_
              refine xr_cV (As := [.int (xs (x4 + (1 : Int32)).toNatClampNeg)]) (rest := []) ⟨hx, hb, hml, hown, hts⟩ hw hM197 hle_u_424 (fun _ _ => ⟨callB_of 1 hts (xgood w_1040) rfl rfl rfl (hts _ (xm w_8)) (hts _ (xm w_1037)) ⟨by decide, by decide, by decide +kernel⟩ ⟨Nat.le_of_ble_eq_true rfl, Nat.le_of_ble_eq_true rfl⟩, (hts _ (xm w_1038)), (hts _ (xm w_1039))⟩) (qc := (R_M, F_M, 14)) rfl rfl h198 rfl hl.1 rfl (Nat.le_of_ble_eq_true rfl) d_L_law_1076 (fun H locs hw => ?_)
              refine W.eq (g2 := F0 m 1079 ls [.int r_425]) rfl ?_
              refine lv_istore (lv' := [(6, .int r_425), (5, .int r_422), (0, .ref x0), (1, .ref x1), (2, .ref x2), (3, .ref x3), (4, .int x4)]) hx hb d_L_law_1079 hl (by decide) rfl (fun ls hl => ?_)
              refine lv_aload_n hx hb d_L_law_1081 rfl (lv_at hl 4 rfl) ?_
              refine xr_cV (As := []) (rest := []) ⟨hx, hb, hml, hown, hts⟩ hw hM199 hle_u_426 (fun _ _ => ⟨callB_of 0 hts (xgood w_915) rfl rfl rfl (hts _ (xm w_8)) (hts _ (xm w_912)) ⟨by decide, by decide, by decide +kernel⟩ ⟨Nat.le_of_ble_eq_true rfl, Nat.le_of_ble_eq_true rfl⟩, (hts _ (xm w_913)), (hts _ (xm w_914))⟩) (qc := (R_M, F_M, 14)) rfl rfl h200 rfl hl.1 rfl (Nat.le_of_ble_eq_true rfl) d_L_law_1082 (fun H locs hw => ?_)
              refine W.eq (g2 := F0 m 1085 ls [.int r_427]) rfl ?_
              refine lv_iload hx hb d_L_law_1085 (lv_at hl 1 rfl) ?_
              refine lv_icmp_eq (tgt := 1092) hx hb d_L_law_1087 (by decide) (fun _ => ?_) (fun c9 => absurd hc201 c9)
              refine lv_iload hx hb d_L_law_1092 (lv_at hl 1 rfl) ?_
              refine lv_if_ne (tgt := 1109) hx hb d_L_law_1094 (by decide) (fun c9 => absurd hc202 c9) (fun _ => ?_)
              refine lv_aload_n hx hb d_L_law_1097 rfl (lv_at hl 5 rfl) ?_
              refine lv_iconst (v := 0) hx hb d_L_law_1098 (by decide) ?_
              refine xr_lald hx hb hw h203 d_L_law_1099 ?_
              refine lv_iload hx hb d_L_law_1100 (lv_at hl 0 rfl) ?_
              refine lv_i2l hx hb d_L_law_1102 rfl ?_
              refine W.lcmp hx hb d_L_law_1103 ?_
              refine lv_if_eq (tgt := 1109) hx hb d_L_law_1104 (by decide) (fun _ => ?_) (fun c9 => absurd hc204 c9)
              exact w9 p e s m args below meth c A H locs ls F hX hw (lv_sub hl [2, 3, 4, 5, 6] rfl)
            · have k := k.2 hc204
              obtain ⟨rv, v9, hK, hle_u_426, w9⟩ := hE1107 u_426 k
              have hle_u_424 : x_le u_424 v9 := (hM199.1).tr hle_u_426
              have hle_u_421 : x_le u_421 v9 := (hM197.1).tr hle_u_424
              have hle_u : x_le u v9 := (hM195.1).tr hle_u_421
              refine ⟨rv, v9, hK, hle_u, ?_⟩
              intro p e s m args below meth c A H locs ls F hX hw hl
              obtain ⟨⟨hx, hb, hml, hown, hts⟩, hr, hlocks, hmn⟩ := id F
              refine lv_iload hx hb d_L_law_23 (lv_at hl 4 rfl) ?_
              refine lv_aload_n hx hb d_L_law_25 rfl (lv_at hl 0 rfl) ?_
              refine xr_slen hx hb hX hw d_L_law_26 ?_
              refine lv_iconst (v := 5) hx hb d_L_law_27 (by decide) ?_
              refine lv_isub hx hb d_L_law_28 ?_
              refine lv_icmp_gt (tgt := 1385) hx hb d_L_law_29 (by decide) (fun c9 => absurd c9 hc2) (fun _ => ?_)
              refine lv_aload_n hx hb d_L_law_32 rfl (lv_at hl 0 rfl) ?_
              refine lv_iload hx hb d_L_law_33 (lv_at hl 4 rfl) ?_
              refine xr_sld hx hb hX hw h3 d_L_law_35 ?_
              refine lv_bipush (v := 31) hx hb d_L_law_36 (by decide) ?_
              refine lv_iand hx hb d_L_law_38 ?_
              refine lv_tableIn (off := 1017) (tgt := 1056) hx hb d_L_law_39 (by rw [hc19]; decide) (by rw [hc19]; decide) (by rw [hc19]; rfl) (by decide) ?_
              refine lv_aload_n hx hb d_L_law_1056 rfl (lv_at hl 1 rfl) ?_
              refine lv_aload_n hx hb d_L_law_1057 rfl (lv_at hl 0 rfl) ?_
              refine lv_iload hx hb d_L_law_1058 (lv_at hl 4 rfl) ?_
              refine lv_iconst (v := 1) hx hb d_L_law_1060 (by decide) ?_
              refine lv_iadd hx hb d_L_law_1061 ?_
              refine xr_sld hx hb hX hw h194 d_L_law_1062 ?_
              refine lv_aload_n hx hb d_L_law_1063 rfl (lv_at hl 3 rfl) ?_
              refine xr_cSW (n := 3) (hh := hh_L_least) (As := [.ref x1, .int (xs (x4 + (1 : Int32)).toNatClampNeg), .ref x3]) (rest := []) ⟨hx, hb, hml, hown, hts⟩ hw hM195 hle_u_421 (xgood w_802) List.mem_cons_self (hts _ (xm w_0)) (hts _ (xm w_800)) (hts _ (xm w_801)) ⟨by decide, by decide, by decide +kernel⟩ ⟨Nat.le_of_ble_eq_true rfl, Nat.le_of_ble_eq_true rfl⟩ ⟨Nat.le_refl _, Nat.le_refl _⟩ rfl hl.1 rfl (Nat.le_of_ble_eq_true rfl) d_L_law_1064 (fun H locs hw => ?_)
              refine W.eq (g2 := F0 m 1067 ls [.int r_422]) rfl ?_
              refine lv_istore (lv' := [(5, .int r_422), (0, .ref x0), (1, .ref x1), (2, .ref x2), (3, .ref x3), (4, .int x4)]) hx hb d_L_law_1067 hl (by decide) rfl (fun ls hl => ?_)
              refine lv_aload_n hx hb d_L_law_1069 rfl (lv_at hl 3 rfl) ?_
              refine lv_aload_n hx hb d_L_law_1070 rfl (lv_at hl 1 rfl) ?_
              refine lv_iload hx hb d_L_law_1071 (lv_at hl 5 rfl) ?_
              refine lv_iconst (v := 1) hx hb d_L_law_1073 (by decide) ?_
              refine lv_iadd hx hb d_L_law_1074 ?_
              refine xr_sld hx hb hX hw h196 d_L_law_1075 ?_
              refine xr_cV (As := [.int (xs (x4 + (1 : Int32)).toNatClampNeg)]) (rest := []) ⟨hx, hb, hml, hown, hts⟩ hw hM197 hle_u_424 (fun _ _ => ⟨callB_of 1 hts (xgood w_1040) rfl rfl rfl (hts _ (xm w_8)) (hts _ (xm w_1037)) ⟨by decide, by decide, by decide +kernel⟩ ⟨Nat.le_of_ble_eq_true rfl, Nat.le_of_ble_eq_true rfl⟩, (hts _ (xm w_1038)), (hts _ (xm w_1039))⟩) (qc := (R_M, F_M, 14)) rfl rfl h198 rfl hl.1 rfl (Nat.le_of_ble_eq_true rfl) d_L_law_1076 (fun H locs hw => ?_)
              refine W.eq (g2 := F0 m 1079 ls [.int r_425]) rfl ?_
              refine lv_istore (lv' := [(6, .int r_425), (5, .int r_422), (0, .ref x0), (1, .ref x1), (2, .ref x2), (3, .ref x3), (4, .int x4)]) hx hb d_L_law_1079 hl (by decide) rfl (fun ls hl => ?_)
              refine lv_aload_n hx hb d_L_law_1081 rfl (lv_at hl 4 rfl) ?_
              refine xr_cV (As := []) (rest := []) ⟨hx, hb, hml, hown, hts⟩ hw hM199 hle_u_426 (fun _ _ => ⟨callB_of 0 hts (xgood w_915) rfl rfl rfl (hts _ (xm w_8)) (hts _ (xm w_912)) ⟨by decide, by decide, by decide +kernel⟩ ⟨Nat.le_of_ble_eq_true rfl, Nat.le_of_ble_eq_true rfl⟩, (hts _ (xm w_913)), (hts _ (xm w_914))⟩) (qc := (R_M, F_M, 14)) rfl rfl h200 rfl hl.1 rfl (Nat.le_of_ble_eq_true rfl) d_L_law_1082 (fun H locs hw => ?_)
              refine W.eq (g2 := F0 m 1085 ls [.int r_427]) rfl ?_
              refine lv_iload hx hb d_L_law_1085 (lv_at hl 1 rfl) ?_
              refine lv_icmp_eq (tgt := 1092) hx hb d_L_law_1087 (by decide) (fun _ => ?_) (fun c9 => absurd hc201 c9)
              refine lv_iload hx hb d_L_law_1092 (lv_at hl 1 rfl) ?_
              refine lv_if_ne (tgt := 1109) hx hb d_L_law_1094 (by decide) (fun c9 => absurd hc202 c9) (fun _ => ?_)
              refine lv_aload_n hx hb d_L_law_1097 rfl (lv_at hl 5 rfl) ?_
              refine lv_iconst (v := 0) hx hb d_L_law_1098 (by decide) ?_
              refine xr_lald hx hb hw h203 d_L_law_1099 ?_
              refine lv_iload hx hb d_L_law_1100 (lv_at hl 0 rfl) ?_
              refine lv_i2l hx hb d_L_law_1102 rfl ?_
              refine W.lcmp hx hb d_L_law_1103 ?_
              refine lv_if_eq (tgt := 1109) hx hb d_L_law_1104 (by decide) (fun c9 => absurd c9 hc204) (fun _ => ?_)
              exact w9 p e s m args below meth c A H locs ls F hX hw (lv_sub hl [] rfl)
          · have k := k.1 hc202
            obtain ⟨rv, v9, hK, hle_u_426, w9⟩ := t_L_law_J1109 l Z u0 sL xs x0 x1 x2 x3 x4 u_426 ih hE175 hE223 hE295 hE367 hE439 hE511 hE599 hE671 hE722 hE739 hE778 hE795 hE811 hE847 hE864 hE903 hE920 hE959 hE976 hE1027 hE1051 hE1090 hE1107 hE1146 hE1163 hE1214 hE1238 hE1301 hE1318 hE1357 hE1374 hE1385 k
            have hle_u_424 : x_le u_424 v9 := (hM199.1).tr hle_u_426
            have hle_u_421 : x_le u_421 v9 := (hM197.1).tr hle_u_424
            have hle_u : x_le u v9 := (hM195.1).tr hle_u_421
            refine ⟨rv, v9, hK, hle_u, ?_⟩
            intro p e s m args below meth c A H locs ls F hX hw hl
            obtain ⟨⟨hx, hb, hml, hown, hts⟩, hr, hlocks, hmn⟩ := id F
            refine lv_iload hx hb d_L_law_23 (lv_at hl 4 rfl) ?_
            refine lv_aload_n hx hb d_L_law_25 rfl (lv_at hl 0 rfl) ?_
            refine xr_slen hx hb hX hw d_L_law_26 ?_
            refine lv_iconst (v := 5) hx hb d_L_law_27 (by decide) ?_
            refine lv_isub hx hb d_L_law_28 ?_
            refine lv_icmp_gt (tgt := 1385) hx hb d_L_law_29 (by decide) (fun c9 => absurd c9 hc2) (fun _ => ?_)
            refine lv_aload_n hx hb d_L_law_32 rfl (lv_at hl 0 rfl) ?_
            refine lv_iload hx hb d_L_law_33 (lv_at hl 4 rfl) ?_
            refine xr_sld hx hb hX hw h3 d_L_law_35 ?_
            refine lv_bipush (v := 31) hx hb d_L_law_36 (by decide) ?_
            refine lv_iand hx hb d_L_law_38 ?_
            refine lv_tableIn (off := 1017) (tgt := 1056) hx hb d_L_law_39 (by rw [hc19]; decide) (by rw [hc19]; decide) (by rw [hc19]; rfl) (by decide) ?_
            refine lv_aload_n hx hb d_L_law_1056 rfl (lv_at hl 1 rfl) ?_
            refine lv_aload_n hx hb d_L_law_1057 rfl (lv_at hl 0 rfl) ?_
            refine lv_iload hx hb d_L_law_1058 (lv_at hl 4 rfl) ?_
            refine lv_iconst (v := 1) hx hb d_L_law_1060 (by decide) ?_
            refine lv_iadd hx hb d_L_law_1061 ?_
            refine xr_sld hx hb hX hw h194 d_L_law_1062 ?_
            refine lv_aload_n hx hb d_L_law_1063 rfl (lv_at hl 3 rfl) ?_
            refine xr_cSW (n := 3) (hh := hh_L_least) (As := [.ref x1, .int (xs (x4 + (1 : Int32)).toNatClampNeg), .ref x3]) (rest := []) ⟨hx, hb, hml, hown, hts⟩ hw hM195 hle_u_421 (xgood w_802) List.mem_cons_self (hts _ (xm w_0)) (hts _ (xm w_800)) (hts _ (xm w_801)) ⟨by decide, by decide, by decide +kernel⟩ ⟨Nat.le_of_ble_eq_true rfl, Nat.le_of_ble_eq_true rfl⟩ ⟨Nat.le_refl _, Nat.le_refl _⟩ rfl hl.1 rfl (Nat.le_of_ble_eq_true rfl) d_L_law_1064 (fun H locs hw => ?_)
            refine W.eq (g2 := F0 m 1067 ls [.int r_422]) rfl ?_
            refine lv_istore (lv' := [(5, .int r_422), (0, .ref x0), (1, .ref x1), (2, .ref x2), (3, .ref x3), (4, .int x4)]) hx hb d_L_law_1067 hl (by decide) rfl (fun ls hl => ?_)
            refine lv_aload_n hx hb d_L_law_1069 rfl (lv_at hl 3 rfl) ?_
            refine lv_aload_n hx hb d_L_law_1070 rfl (lv_at hl 1 rfl) ?_
            refine lv_iload hx hb d_L_law_1071 (lv_at hl 5 rfl) ?_
            refine lv_iconst (v := 1) hx hb d_L_law_1073 (by decide) ?_
            refine lv_iadd hx hb d_L_law_1074 ?_
            refine xr_sld hx hb hX hw h196 d_L_law_1075 ?_
            refine xr_cV (As := [.int (xs (x4 + (1 : Int32)).toNatClampNeg)]) (rest := []) ⟨hx, hb, hml, hown, hts⟩ hw hM197 hle_u_424 (fun _ _ => ⟨callB_of 1 hts (xgood w_1040) rfl rfl rfl (hts _ (xm w_8)) (hts _ (xm w_1037)) ⟨by decide, by decide, by decide +kernel⟩ ⟨Nat.le_of_ble_eq_true rfl, Nat.le_of_ble_eq_true rfl⟩, (hts _ (xm w_1038)), (hts _ (xm w_1039))⟩) (qc := (R_M, F_M, 14)) rfl rfl h198 rfl hl.1 rfl (Nat.le_of_ble_eq_true rfl) d_L_law_1076 (fun H locs hw => ?_)
            refine W.eq (g2 := F0 m 1079 ls [.int r_425]) rfl ?_
            refine lv_istore (lv' := [(6, .int r_425), (5, .int r_422), (0, .ref x0), (1, .ref x1), (2, .ref x2), (3, .ref x3), (4, .int x4)]) hx hb d_L_law_1079 hl (by decide) rfl (fun ls hl => ?_)
            refine lv_aload_n hx hb d_L_law_1081 rfl (lv_at hl 4 rfl) ?_
            refine xr_cV (As := []) (rest := []) ⟨hx, hb, hml, hown, hts⟩ hw hM199 hle_u_426 (fun _ _ => ⟨callB_of 0 hts (xgood w_915) rfl rfl rfl (hts _ (xm w_8)) (hts _ (xm w_912)) ⟨by decide, by decide, by decide +kernel⟩ ⟨Nat.le_of_ble_eq_true rfl, Nat.le_of_ble_eq_true rfl⟩, (hts _ (xm w_913)), (hts _ (xm w_914))⟩) (qc := (R_M, F_M, 14)) rfl rfl h200 rfl hl.1 rfl (Nat.le_of_ble_eq_true rfl) d_L_law_1082 (fun H locs hw => ?_)
            refine W.eq (g2 := F0 m 1085 ls [.int r_427]) rfl ?_
            refine lv_iload hx hb d_L_law_1085 (lv_at hl 1 rfl) ?_
            refine lv_icmp_eq (tgt := 1092) hx hb d_L_law_1087 (by decide) (fun _ => ?_) (fun c9 => absurd hc201 c9)
            refine lv_iload hx hb d_L_law_1092 (lv_at hl 1 rfl) ?_
            refine lv_if_ne (tgt := 1109) hx hb d_L_law_1094 (by decide) (fun _ => ?_) (fun c9 => absurd c9 hc202)
            exact w9 p e s m args below meth c A H locs ls F hX hw (lv_sub hl [2, 3, 4, 5, 6] rfl)
        · have k := k.2 hc201
          obtain ⟨rv, v9, hK, hle_u_426, w9⟩ := hE1090 u_426 k
          have hle_u_424 : x_le u_424 v9 := (hM199.1).tr hle_u_426
          have hle_u_421 : x_le u_421 v9 := (hM197.1).tr hle_u_424
          have hle_u : x_le u v9 := (hM195.1).tr hle_u_421
          refine ⟨rv, v9, hK, hle_u, ?_⟩
          intro p e s m args below meth c A H locs ls F hX hw hl
          obtain ⟨⟨hx, hb, hml, hown, hts⟩, hr, hlocks, hmn⟩ := id F
          refine lv_iload hx hb d_L_law_23 (lv_at hl 4 rfl) ?_
          refine lv_aload_n hx hb d_L_law_25 rfl (lv_at hl 0 rfl) ?_
          refine xr_slen hx hb hX hw d_L_law_26 ?_
          refine lv_iconst (v := 5) hx hb d_L_law_27 (by decide) ?_
          refine lv_isub hx hb d_L_law_28 ?_
          refine lv_icmp_gt (tgt := 1385) hx hb d_L_law_29 (by decide) (fun c9 => absurd c9 hc2) (fun _ => ?_)
          refine lv_aload_n hx hb d_L_law_32 rfl (lv_at hl 0 rfl) ?_
          refine lv_iload hx hb d_L_law_33 (lv_at hl 4 rfl) ?_
          refine xr_sld hx hb hX hw h3 d_L_law_35 ?_
          refine lv_bipush (v := 31) hx hb d_L_law_36 (by decide) ?_
          refine lv_iand hx hb d_L_law_38 ?_
          refine lv_tableIn (off := 1017) (tgt := 1056) hx hb d_L_law_39 (by rw [hc19]; decide) (by rw [hc19]; decide) (by rw [hc19]; rfl) (by decide) ?_
          refine lv_aload_n hx hb d_L_law_1056 rfl (lv_at hl 1 rfl) ?_
          refine lv_aload_n hx hb d_L_law_1057 rfl (lv_at hl 0 rfl) ?_
          refine lv_iload hx hb d_L_law_1058 (lv_at hl 4 rfl) ?_
          refine lv_iconst (v := 1) hx hb d_L_law_1060 (by decide) ?_
          refine lv_iadd hx hb d_L_law_1061 ?_
          refine xr_sld hx hb hX hw h194 d_L_law_1062 ?_
          refine lv_aload_n hx hb d_L_law_1063 rfl (lv_at hl 3 rfl) ?_
          refine xr_cSW (n := 3) (hh := hh_L_least) (As := [.ref x1, .int (xs (x4 + (1 : Int32)).toNatClampNeg), .ref x3]) (rest := []) ⟨hx, hb, hml, hown, hts⟩ hw hM195 hle_u_421 (xgood w_802) List.mem_cons_self (hts _ (xm w_0)) (hts _ (xm w_800)) (hts _ (xm w_801)) ⟨by decide, by decide, by decide +kernel⟩ ⟨Nat.le_of_ble_eq_true rfl, Nat.le_of_ble_eq_true rfl⟩ ⟨Nat.le_refl _, Nat.le_refl _⟩ rfl hl.1 rfl (Nat.le_of_ble_eq_true rfl) d_L_law_1064 (fun H locs hw => ?_)
          refine W.eq (g2 := F0 m 1067 ls [.int r_422]) rfl ?_
          refine lv_istore (lv' := [(5, .int r_422), (0, .ref x0), (1, .ref x1), (2, .ref x2), (3, .ref x3), (4, .int x4)]) hx hb d_L_law_1067 hl (by decide) rfl (fun ls hl => ?_)
          refine lv_aload_n hx hb d_L_law_1069 rfl (lv_at hl 3 rfl) ?_
          refine lv_aload_n hx hb d_L_law_1070 rfl (lv_at hl 1 rfl) ?_
          refine lv_iload hx hb d_L_law_1071 (lv_at hl 5 rfl) ?_
          refine lv_iconst (v := 1) hx hb d_L_law_1073 (by decide) ?_
          refine lv_iadd hx hb d_L_law_1074 ?_
          refine xr_sld hx hb hX hw h196 d_L_law_1075 ?_
          refine xr_cV (As := [.int (xs (x4 + (1 : Int32)).toNatClampNeg)]) (rest := []) ⟨hx, hb, hml, hown, hts⟩ hw hM197 hle_u_424 (fun _ _ => ⟨callB_of 1 hts (xgood w_1040) rfl rfl rfl (hts _ (xm w_8)) (hts _ (xm w_1037)) ⟨by decide, by decide, by decide +kernel⟩ ⟨Nat.le_of_ble_eq_true rfl, Nat.le_of_ble_eq_true rfl⟩, (hts _ (xm w_1038)), (hts _ (xm w_1039))⟩) (qc := (R_M, F_M, 14)) rfl rfl h198 rfl hl.1 rfl (Nat.le_of_ble_eq_true rfl) d_L_law_1076 (fun H locs hw => ?_)
          refine W.eq (g2 := F0 m 1079 ls [.int r_425]) rfl ?_
          refine lv_istore (lv' := [(6, .int r_425), (5, .int r_422), (0, .ref x0), (1, .ref x1), (2, .ref x2), (3, .ref x3), (4, .int x4)]) hx hb d_L_law_1079 hl (by decide) rfl (fun ls hl => ?_)
          refine lv_aload_n hx hb d_L_law_1081 rfl (lv_at hl 4 rfl) ?_
          refine xr_cV (As := []) (rest := []) ⟨hx, hb, hml, hown, hts⟩ hw hM199 hle_u_426 (fun _ _ => ⟨callB_of 0 hts (xgood w_915) rfl rfl rfl (hts _ (xm w_8)) (hts _ (xm w_912)) ⟨by decide, by decide, by decide +kernel⟩ ⟨Nat.le_of_ble_eq_true rfl, Nat.le_of_ble_eq_true rfl⟩, (hts _ (xm w_913)), (hts _ (xm w_914))⟩) (qc := (R_M, F_M, 14)) rfl rfl h200 rfl hl.1 rfl (Nat.le_of_ble_eq_true rfl) d_L_law_1082 (fun H locs hw => ?_)
          refine W.eq (g2 := F0 m 1085 ls [.int r_427]) rfl ?_
          refine lv_iload hx hb d_L_law_1085 (lv_at hl 1 rfl) ?_
          refine lv_icmp_eq (tgt := 1092) hx hb d_L_law_1087 (by decide) (fun c9 => absurd c9 hc201) (fun _ => ?_)
          exact w9 p e s m args below meth c A H locs ls F hX hw (lv_sub hl [] rfl)
      by_cases hc20 : ((xs x4.toNatClampNeg) &&& (31 : Int32)) = 16
      · have k := k.2.2.2.2.2.2.2.2.2.2.2.2.2.2.2.2.1 hc20
        obtain ⟨h205, k⟩ := k
        obtain ⟨_, u_430, ⟨r_431, rfl, k⟩, hM206⟩ := c_L_support l Z x1 (xs (x4 + (1 : Int32)).toNatClampNeg) x3 u _ k
        obtain ⟨h207, k⟩ := k
        obtain ⟨h209, k⟩ := k
        obtain ⟨_, u_433, ⟨r_434, rfl, k⟩, hM208⟩ := c_M_support l Z x2 (xs (x4 + (1 : Int32)).toNatClampNeg) u_430 _ k
        obtain ⟨h211, k⟩ := k
        obtain ⟨_, u_435, ⟨r_436, rfl, k⟩, hM210⟩ := c_M_thrown l Z x2 u_433 _ k
        by_cases hc212 : r_436 = r_431
        · have k := k.1 hc212
          by_cases hc213 : r_431 = 0
          · have k := k.2 hc213
            obtain ⟨z_437, h214, k⟩ := k
            by_cases hc215 : (lg_cmp z_437 (r_434.toInt64)) = 0
            · have k := k.1 hc215
              obtain ⟨rv, v9, hK, hle_u_435, w9⟩ := t_L_law_J1165 l Z u0 sL xs x0 x1 x2 x3 x4 u_435 ih hE175 hE223 hE295 hE367 hE439 hE511 hE599 hE671 hE722 hE739 hE778 hE795 hE811 hE847 hE864 hE903 hE920 hE959 hE976 hE1027 hE1051 hE1090 hE1107 hE1146 hE1163 hE1214 hE1238 hE1301 hE1318 hE1357 hE1374 hE1385 k
              have hle_u_433 : x_le u_433 v9 := (hM210.1).tr hle_u_435
              have hle_u_430 : x_le u_430 v9 := (hM208.1).tr hle_u_433
              have hle_u : x_le u v9 := (hM206.1).tr hle_u_430
              refine ⟨rv, v9, hK, hle_u, ?_⟩
              intro p e s m args below meth c A H locs ls F hX hw hl
              obtain ⟨⟨hx, hb, hml, hown, hts⟩, hr, hlocks, hmn⟩ := id F
              refine lv_iload hx hb d_L_law_23 (lv_at hl 4 rfl) ?_
              refine lv_aload_n hx hb d_L_law_25 rfl (lv_at hl 0 rfl) ?_
              refine xr_slen hx hb hX hw d_L_law_26 ?_
              refine lv_iconst (v := 5) hx hb d_L_law_27 (by decide) ?_
              refine lv_isub hx hb d_L_law_28 ?_
              refine lv_icmp_gt (tgt := 1385) hx hb d_L_law_29 (by decide) (fun c9 => absurd c9 hc2) (fun _ => ?_)
              refine lv_aload_n hx hb d_L_law_32 rfl (lv_at hl 0 rfl) ?_
              refine lv_iload hx hb d_L_law_33 (lv_at hl 4 rfl) ?_
              refine xr_sld hx hb hX hw h3 d_L_law_35 ?_
              refine lv_bipush (v := 31) hx hb d_L_law_36 (by decide) ?_
              refine lv_iand hx hb d_L_law_38 ?_
              refine lv_tableIn (off := 1073) (tgt := 1112) hx hb d_L_law_39 (by rw [hc20]; decide) (by rw [hc20]; decide) (by rw [hc20]; rfl) (by decide) ?_
              refine lv_aload_n hx hb d_L_law_1112 rfl (lv_at hl 1 rfl) ?_
              refine lv_aload_n hx hb d_L_law_1113 rfl (lv_at hl 0 rfl) ?_
              refine lv_iload hx hb d_L_law_1114 (lv_at hl 4 rfl) ?_
              refine lv_iconst (v := 1) hx hb d_L_law_1116 (by decide) ?_
              refine lv_iadd hx hb d_L_law_1117 ?_
              refine xr_sld hx hb hX hw h205 d_L_law_1118 ?_
              refine lv_aload_n hx hb d_L_law_1119 rfl (lv_at hl 3 rfl) ?_
              refine xr_cSW (n := 3) (hh := hh_L_support) (As := [.ref x1, .int (xs (x4 + (1 : Int32)).toNatClampNeg), .ref x3]) (rest := []) ⟨hx, hb, hml, hown, hts⟩ hw hM206 hle_u_430 (xgood w_817) List.mem_cons_self (hts _ (xm w_0)) (hts _ (xm w_815)) (hts _ (xm w_816)) ⟨by decide, by decide, by decide +kernel⟩ ⟨Nat.le_of_ble_eq_true rfl, Nat.le_of_ble_eq_true rfl⟩ ⟨Nat.le_refl _, Nat.le_refl _⟩ rfl hl.1 rfl (Nat.le_of_ble_eq_true rfl) d_L_law_1120 (fun H locs hw => ?_)
              refine W.eq (g2 := F0 m 1123 ls [.int r_431]) rfl ?_
              refine lv_istore (lv' := [(5, .int r_431), (0, .ref x0), (1, .ref x1), (2, .ref x2), (3, .ref x3), (4, .int x4)]) hx hb d_L_law_1123 hl (by decide) rfl (fun ls hl => ?_)
              refine lv_aload_n hx hb d_L_law_1125 rfl (lv_at hl 3 rfl) ?_
              refine lv_aload_n hx hb d_L_law_1126 rfl (lv_at hl 1 rfl) ?_
              refine lv_iload hx hb d_L_law_1127 (lv_at hl 5 rfl) ?_
              refine lv_iconst (v := 1) hx hb d_L_law_1129 (by decide) ?_
              refine lv_iadd hx hb d_L_law_1130 ?_
              refine xr_sld hx hb hX hw h207 d_L_law_1131 ?_
              refine xr_cV (As := [.int (xs (x4 + (1 : Int32)).toNatClampNeg)]) (rest := []) ⟨hx, hb, hml, hown, hts⟩ hw hM208 hle_u_433 (fun _ _ => ⟨callB_of 1 hts (xgood w_1044) rfl rfl rfl (hts _ (xm w_8)) (hts _ (xm w_1041)) ⟨by decide, by decide, by decide +kernel⟩ ⟨Nat.le_of_ble_eq_true rfl, Nat.le_of_ble_eq_true rfl⟩, (hts _ (xm w_1042)), (hts _ (xm w_1043))⟩) (qc := (R_M, F_M, 14)) rfl rfl h209 rfl hl.1 rfl (Nat.le_of_ble_eq_true rfl) d_L_law_1132 (fun H locs hw => ?_)
              refine W.eq (g2 := F0 m 1135 ls [.int r_434]) rfl ?_
              refine lv_istore (lv' := [(6, .int r_434), (5, .int r_431), (0, .ref x0), (1, .ref x1), (2, .ref x2), (3, .ref x3), (4, .int x4)]) hx hb d_L_law_1135 hl (by decide) rfl (fun ls hl => ?_)
              refine lv_aload_n hx hb d_L_law_1137 rfl (lv_at hl 4 rfl) ?_
              refine xr_cV (As := []) (rest := []) ⟨hx, hb, hml, hown, hts⟩ hw hM210 hle_u_435 (fun _ _ => ⟨callB_of 0 hts (xgood w_915) rfl rfl rfl (hts _ (xm w_8)) (hts _ (xm w_912)) ⟨by decide, by decide, by decide +kernel⟩ ⟨Nat.le_of_ble_eq_true rfl, Nat.le_of_ble_eq_true rfl⟩, (hts _ (xm w_913)), (hts _ (xm w_914))⟩) (qc := (R_M, F_M, 14)) rfl rfl h211 rfl hl.1 rfl (Nat.le_of_ble_eq_true rfl) d_L_law_1138 (fun H locs hw => ?_)
              refine W.eq (g2 := F0 m 1141 ls [.int r_436]) rfl ?_
              refine lv_iload hx hb d_L_law_1141 (lv_at hl 1 rfl) ?_
              refine lv_icmp_eq (tgt := 1148) hx hb d_L_law_1143 (by decide) (fun _ => ?_) (fun c9 => absurd hc212 c9)
              refine lv_iload hx hb d_L_law_1148 (lv_at hl 1 rfl) ?_
              refine lv_if_ne (tgt := 1165) hx hb d_L_law_1150 (by decide) (fun c9 => absurd hc213 c9) (fun _ => ?_)
              refine lv_aload_n hx hb d_L_law_1153 rfl (lv_at hl 5 rfl) ?_
              refine lv_iconst (v := 0) hx hb d_L_law_1154 (by decide) ?_
              refine xr_lald hx hb hw h214 d_L_law_1155 ?_
              refine lv_iload hx hb d_L_law_1156 (lv_at hl 0 rfl) ?_
              refine lv_i2l hx hb d_L_law_1158 rfl ?_
              refine W.lcmp hx hb d_L_law_1159 ?_
              refine lv_if_eq (tgt := 1165) hx hb d_L_law_1160 (by decide) (fun _ => ?_) (fun c9 => absurd hc215 c9)
              exact w9 p e s m args below meth c A H locs ls F hX hw (lv_sub hl [2, 3, 4, 5, 6] rfl)
            · have k := k.2 hc215
              obtain ⟨rv, v9, hK, hle_u_435, w9⟩ := hE1163 u_435 k
              have hle_u_433 : x_le u_433 v9 := (hM210.1).tr hle_u_435
              have hle_u_430 : x_le u_430 v9 := (hM208.1).tr hle_u_433
              have hle_u : x_le u v9 := (hM206.1).tr hle_u_430
              refine ⟨rv, v9, hK, hle_u, ?_⟩
              intro p e s m args below meth c A H locs ls F hX hw hl
              obtain ⟨⟨hx, hb, hml, hown, hts⟩, hr, hlocks, hmn⟩ := id F
              refine lv_iload hx hb d_L_law_23 (lv_at hl 4 rfl) ?_
              refine lv_aload_n hx hb d_L_law_25 rfl (lv_at hl 0 rfl) ?_
              refine xr_slen hx hb hX hw d_L_law_26 ?_
              refine lv_iconst (v := 5) hx hb d_L_law_27 (by decide) ?_
              refine lv_isub hx hb d_L_law_28 ?_
              refine lv_icmp_gt (tgt := 1385) hx hb d_L_law_29 (by decide) (fun c9 => absurd c9 hc2) (fun _ => ?_)
              refine lv_aload_n hx hb d_L_law_32 rfl (lv_at hl 0 rfl) ?_
              refine lv_iload hx hb d_L_law_33 (lv_at hl 4 rfl) ?_
              refine xr_sld hx hb hX hw h3 d_L_law_35 ?_
              refine lv_bipush (v := 31) hx hb d_L_law_36 (by decide) ?_
              refine lv_iand hx hb d_L_law_38 ?_
              refine lv_tableIn (off := 1073) (tgt := 1112) hx hb d_L_law_39 (by rw [hc20]; decide) (by rw [hc20]; decide) (by rw [hc20]; rfl) (by decide) ?_
              refine lv_aload_n hx hb d_L_law_1112 rfl (lv_at hl 1 rfl) ?_
              refine lv_aload_n hx hb d_L_law_1113 rfl (lv_at hl 0 rfl) ?_
              refine lv_iload hx hb d_L_law_1114 (lv_at hl 4 rfl) ?_
              refine lv_iconst (v := 1) hx hb d_L_law_1116 (by decide) ?_
              refine lv_iadd hx hb d_L_law_1117 ?_
              refine xr_sld hx hb hX hw h205 d_L_law_1118 ?_
              refine lv_aload_n hx hb d_L_law_1119 rfl (lv_at hl 3 rfl) ?_
              refine xr_cSW (n := 3) (hh := hh_L_support) (As := [.ref x1, .int (xs (x4 + (1 : Int32)).toNatClampNeg), .ref x3]) (rest := []) ⟨hx, hb, hml, hown, hts⟩ hw hM206 hle_u_430 (xgood w_817) List.mem_cons_self (hts _ (xm w_0)) (hts _ (xm w_815)) (hts _ (xm w_816)) ⟨by decide, by decide, by decide +kernel⟩ ⟨Nat.le_of_ble_eq_true rfl, Nat.le_of_ble_eq_true rfl⟩ ⟨Nat.le_refl _, Nat.le_refl _⟩ rfl hl.1 rfl (Nat.le_of_ble_eq_true rfl) d_L_law_1120 (fun H locs hw => ?_)
              refine W.eq (g2 := F0 m 1123 ls [.int r_431]) rfl ?_
              refine lv_istore (lv' := [(5, .int r_431), (0, .ref x0), (1, .ref x1), (2, .ref x2), (3, .ref x3), (4, .int x4)]) hx hb d_L_law_1123 hl (by decide) rfl (fun ls hl => ?_)
              refine lv_aload_n hx hb d_L_law_1125 rfl (lv_at hl 3 rfl) ?_
              refine lv_aload_n hx hb d_L_law_1126 rfl (lv_at hl 1 rfl) ?_
              refine lv_iload hx hb d_L_law_1127 (lv_at hl 5 rfl) ?_
              refine lv_iconst (v := 1) hx hb d_L_law_1129 (by decide) ?_
              refine lv_iadd hx hb d_L_law_1130 ?_
              refine xr_sld hx hb hX hw h207 d_L_law_1131 ?_
              refine xr_cV (As := [.int (xs (x4 + (1 : Int32)).toNatClampNeg)]) (rest := []) ⟨hx, hb, hml, hown, hts⟩ hw hM208 hle_u_433 (fun _ _ => ⟨callB_of 1 hts (xgood w_1044) rfl rfl rfl (hts _ (xm w_8)) (hts _ (xm w_1041)) ⟨by decide, by decide, by decide +kernel⟩ ⟨Nat.le_of_ble_eq_true rfl, Nat.le_of_ble_eq_true rfl⟩, (hts _ (xm w_1042)), (hts _ (xm w_1043))⟩) (qc := (R_M, F_M, 14)) rfl rfl h209 rfl hl.1 rfl (Nat.le_of_ble_eq_true rfl) d_L_law_1132 (fun H locs hw => ?_)
              refine W.eq (g2 := F0 m 1135 ls [.int r_434]) rfl ?_
              refine lv_istore (lv' := [(6, .int r_434), (5, .int r_431), (0, .ref x0), (1, .ref x1), (2, .ref x2), (3, .ref x3), (4, .int x4)]) hx hb d_L_law_1135 hl (by decide) rfl (fun ls hl => ?_)
              refine lv_aload_n hx hb d_L_law_1137 rfl (lv_at hl 4 rfl) ?_
              refine xr_cV (As := []) (rest := []) ⟨hx, hb, hml, hown, hts⟩ hw hM210 hle_u_435 (fun _ _ => ⟨callB_of 0 hts (xgood w_915) rfl rfl rfl (hts _ (xm w_8)) (hts _ (xm w_912)) ⟨by decide, by decide, by decide +kernel⟩ ⟨Nat.le_of_ble_eq_true rfl, Nat.le_of_ble_eq_true rfl⟩, (hts _ (xm w_913)), (hts _ (xm w_914))⟩) (qc := (R_M, F_M, 14)) rfl rfl h211 rfl hl.1 rfl (Nat.le_of_ble_eq_true rfl) d_L_law_1138 (fun H locs hw => ?_)
              refine W.eq (g2 := F0 m 1141 ls [.int r_436]) rfl ?_
              refine lv_iload hx hb d_L_law_1141 (lv_at hl 1 rfl) ?_
              refine lv_icmp_eq (tgt := 1148) hx hb d_L_law_1143 (by decide) (fun _ => ?_) (fun c9 => absurd hc212 c9)
              refine lv_iload hx hb d_L_law_1148 (lv_at hl 1 rfl) ?_
              refine lv_if_ne (tgt := 1165) hx hb d_L_law_1150 (by decide) (fun c9 => absurd hc213 c9) (fun _ => ?_)
              refine lv_aload_n hx hb d_L_law_1153 rfl (lv_at hl 5 rfl) ?_
              refine lv_iconst (v := 0) hx hb d_L_law_1154 (by decide) ?_
              refine xr_lald hx hb hw h214 d_L_law_1155 ?_
              refine lv_iload hx hb d_L_law_1156 (lv_at hl 0 rfl) ?_
              refine lv_i2l hx hb d_L_law_1158 rfl ?_
              refine W.lcmp hx hb d_L_law_1159 ?_
              refine lv_if_eq (tgt := 1165) hx hb d_L_law_1160 (by decide) (fun c9 => absurd c9 hc215) (fun _ => ?_)
              exact w9 p e s m args below meth c A H locs ls F hX hw (lv_sub hl [] rfl)
          · have k := k.1 hc213
            obtain ⟨rv, v9, hK, hle_u_435, w9⟩ := t_L_law_J1165 l Z u0 sL xs x0 x1 x2 x3 x4 u_435 ih hE175 hE223 hE295 hE367 hE439 hE511 hE599 hE671 hE722 hE739 hE778 hE795 hE811 hE847 hE864 hE903 hE920 hE959 hE976 hE1027 hE1051 hE1090 hE1107 hE1146 hE1163 hE1214 hE1238 hE1301 hE1318 hE1357 hE1374 hE1385 k
            have hle_u_433 : x_le u_433 v9 := (hM210.1).tr hle_u_435
            have hle_u_430 : x_le u_430 v9 := (hM208.1).tr hle_u_433
            have hle_u : x_le u v9 := (hM206.1).tr hle_u_430
            refine ⟨rv, v9, hK, hle_u, ?_⟩
            intro p e s m args below meth c A H locs ls F hX hw hl
            obtain ⟨⟨hx, hb, hml, hown, hts⟩, hr, hlocks, hmn⟩ := id F
            refine lv_iload hx hb d_L_law_23 (lv_at hl 4 rfl) ?_
            refine lv_aload_n hx hb d_L_law_25 rfl (lv_at hl 0 rfl) ?_
            refine xr_slen hx hb hX hw d_L_law_26 ?_
            refine lv_iconst (v := 5) hx hb d_L_law_27 (by decide) ?_
            refine lv_isub hx hb d_L_law_28 ?_
            refine lv_icmp_gt (tgt := 1385) hx hb d_L_law_29 (by decide) (fun c9 => absurd c9 hc2) (fun _ => ?_)
            refine lv_aload_n hx hb d_L_law_32 rfl (lv_at hl 0 rfl) ?_
            refine lv_iload hx hb d_L_law_33 (lv_at hl 4 rfl) ?_
            refine xr_sld hx hb hX hw h3 d_L_law_35 ?_
            refine lv_bipush (v := 31) hx hb d_L_law_36 (by decide) ?_
            refine lv_iand hx hb d_L_law_38 ?_
            refine lv_tableIn (off := 1073) (tgt := 1112) hx hb d_L_law_39 (by rw [hc20]; decide) (by rw [hc20]; decide) (by rw [hc20]; rfl) (by decide) ?_
            refine lv_aload_n hx hb d_L_law_1112 rfl (lv_at hl 1 rfl) ?_
            refine lv_aload_n hx hb d_L_law_1113 rfl (lv_at hl 0 rfl) ?_
            refine lv_iload hx hb d_L_law_1114 (lv_at hl 4 rfl) ?_
            refine lv_iconst (v := 1) hx hb d_L_law_1116 (by decide) ?_
            refine lv_iadd hx hb d_L_law_1117 ?_
            refine xr_sld hx hb hX hw h205 d_L_law_1118 ?_
            refine lv_aload_n hx hb d_L_law_1119 rfl (lv_at hl 3 rfl) ?_
            refine xr_cSW (n := 3) (hh := hh_L_support) (As := [.ref x1, .int (xs (x4 + (1 : Int32)).toNatClampNeg), .ref x3]) (rest := []) ⟨hx, hb, hml, hown, hts⟩ hw hM206 hle_u_430 (xgood w_817) List.mem_cons_self (hts _ (xm w_0)) (hts _ (xm w_815)) (hts _ (xm w_816)) ⟨by decide, by decide, by decide +kernel⟩ ⟨Nat.le_of_ble_eq_true rfl, Nat.le_of_ble_eq_true rfl⟩ ⟨Nat.le_refl _, Nat.le_refl _⟩ rfl hl.1 rfl (Nat.le_of_ble_eq_true rfl) d_L_law_1120 (fun H locs hw => ?_)
            refine W.eq (g2 := F0 m 1123 ls [.int r_431]) rfl ?_
            refine lv_istore (lv' := [(5, .int r_431), (0, .ref x0), (1, .ref x1), (2, .ref x2), (3, .ref x3), (4, .int x4)]) hx hb d_L_law_1123 hl (by decide) rfl (fun ls hl => ?_)
            refine lv_aload_n hx hb d_L_law_1125 rfl (lv_at hl 3 rfl) ?_
            refine lv_aload_n hx hb d_L_law_1126 rfl (lv_at hl 1 rfl) ?_
            refine lv_iload hx hb d_L_law_1127 (lv_at hl 5 rfl) ?_
            refine lv_iconst (v := 1) hx hb d_L_law_1129 (by decide) ?_
            refine lv_iadd hx hb d_L_law_1130 ?_
            refine xr_sld hx hb hX hw h207 d_L_law_1131 ?_
            refine xr_cV (As := [.int (xs (x4 + (1 : Int32)).toNatClampNeg)]) (rest := []) ⟨hx, hb, hml, hown, hts⟩ hw hM208 hle_u_433 (fun _ _ => ⟨callB_of 1 hts (xgood w_1044) rfl rfl rfl (hts _ (xm w_8)) (hts _ (xm w_1041)) ⟨by decide, by decide, by decide +kernel⟩ ⟨Nat.le_of_ble_eq_true rfl, Nat.le_of_ble_eq_true rfl⟩, (hts _ (xm w_1042)), (hts _ (xm w_1043))⟩) (qc := (R_M, F_M, 14)) rfl rfl h209 rfl hl.1 rfl (Nat.le_of_ble_eq_true rfl) d_L_law_1132 (fun H locs hw => ?_)
            refine W.eq (g2 := F0 m 1135 ls [.int r_434]) rfl ?_
            refine lv_istore (lv' := [(6, .int r_434), (5, .int r_431), (0, .ref x0), (1, .ref x1), (2, .ref x2), (3, .ref x3), (4, .int x4)]) hx hb d_L_law_1135 hl (by decide) rfl (fun ls hl => ?_)
            refine lv_aload_n hx hb d_L_law_1137 rfl (lv_at hl 4 rfl) ?_
            refine xr_cV (As := []) (rest := []) ⟨hx, hb, hml, hown, hts⟩ hw hM210 hle_u_435 (fun _ _ => ⟨callB_of 0 hts (xgood w_915) rfl rfl rfl (hts _ (xm w_8)) (hts _ (xm w_912)) ⟨by decide, by decide, by decide +kernel⟩ ⟨Nat.le_of_ble_eq_true rfl, Nat.le_of_ble_eq_true rfl⟩, (hts _ (xm w_913)), (hts _ (xm w_914))⟩) (qc := (R_M, F_M, 14)) rfl rfl h211 rfl hl.1 rfl (Nat.le_of_ble_eq_true rfl) d_L_law_1138 (fun H locs hw => ?_)
            refine W.eq (g2 := F0 m 1141 ls [.int r_436]) rfl ?_
            refine lv_iload hx hb d_L_law_1141 (lv_at hl 1 rfl) ?_
            refine lv_icmp_eq (tgt := 1148) hx hb d_L_law_1143 (by decide) (fun _ => ?_) (fun c9 => absurd hc212 c9)
            refine lv_iload hx hb d_L_law_1148 (lv_at hl 1 rfl) ?_
            refine lv_if_ne (tgt := 1165) hx hb d_L_law_1150 (by decide) (fun _ => ?_) (fun c9 => absurd c9 hc213)
            exact w9 p e s m args below meth c A H locs ls F hX hw (lv_sub hl [2, 3, 4, 5, 6] rfl)
        · have k := k.2 hc212
          obtain ⟨rv, v9, hK, hle_u_435, w9⟩ := hE1146 u_435 k
          have hle_u_433 : x_le u_433 v9 := (hM210.1).tr hle_u_435
          have hle_u_430 : x_le u_430 v9 := (hM208.1).tr hle_u_433
          have hle_u : x_le u v9 := (hM206.1).tr hle_u_430
          refine ⟨rv, v9, hK, hle_u, ?_⟩
          intro p e s m args below meth c A H locs ls F hX hw hl
          obtain ⟨⟨hx, hb, hml, hown, hts⟩, hr, hlocks, hmn⟩ := id F
          refine lv_iload hx hb d_L_law_23 (lv_at hl 4 rfl) ?_
          refine lv_aload_n hx hb d_L_law_25 rfl (lv_at hl 0 rfl) ?_
          refine xr_slen hx hb hX hw d_L_law_26 ?_
          refine lv_iconst (v := 5) hx hb d_L_law_27 (by decide) ?_
          refine lv_isub hx hb d_L_law_28 ?_
          refine lv_icmp_gt (tgt := 1385) hx hb d_L_law_29 (by decide) (fun c9 => absurd c9 hc2) (fun _ => ?_)
          refine lv_aload_n hx hb d_L_law_32 rfl (lv_at hl 0 rfl) ?_
          refine lv_iload hx hb d_L_law_33 (lv_at hl 4 rfl) ?_
          refine xr_sld hx hb hX hw h3 d_L_law_35 ?_
          refine lv_bipush (v := 31) hx hb d_L_law_36 (by decide) ?_
          refine lv_iand hx hb d_L_law_38 ?_
          refine lv_tableIn (off := 1073) (tgt := 1112) hx hb d_L_law_39 (by rw [hc20]; decide) (by rw [hc20]; decide) (by rw [hc20]; rfl) (by decide) ?_
          refine lv_aload_n hx hb d_L_law_1112 rfl (lv_at hl 1 rfl) ?_
          refine lv_aload_n hx hb d_L_law_1113 rfl (lv_at hl 0 rfl) ?_
          refine lv_iload hx hb d_L_law_1114 (lv_at hl 4 rfl) ?_
          refine lv_iconst (v := 1) hx hb d_L_law_1116 (by decide) ?_
          refine lv_iadd hx hb d_L_law_1117 ?_
          refine xr_sld hx hb hX hw h205 d_L_law_1118 ?_
          refine lv_aload_n hx hb d_L_law_1119 rfl (lv_at hl 3 rfl) ?_
          refine xr_cSW (n := 3) (hh := hh_L_support) (As := [.ref x1, .int (xs (x4 + (1 : Int32)).toNatClampNeg), .ref x3]) (rest := []) ⟨hx, hb, hml, hown, hts⟩ hw hM206 hle_u_430 (xgood w_817) List.mem_cons_self (hts _ (xm w_0)) (hts _ (xm w_815)) (hts _ (xm w_816)) ⟨by decide, by decide, by decide +kernel⟩ ⟨Nat.le_of_ble_eq_true rfl, Nat.le_of_ble_eq_true rfl⟩ ⟨Nat.le_refl _, Nat.le_refl _⟩ rfl hl.1 rfl (Nat.le_of_ble_eq_true rfl) d_L_law_1120 (fun H locs hw => ?_)
          refine W.eq (g2 := F0 m 1123 ls [.int r_431]) rfl ?_
          refine lv_istore (lv' := [(5, .int r_431), (0, .ref x0), (1, .ref x1), (2, .ref x2), (3, .ref x3), (4, .int x4)]) hx hb d_L_law_1123 hl (by decide) rfl (fun ls hl => ?_)
          refine lv_aload_n hx hb d_L_law_1125 rfl (lv_at hl 3 rfl) ?_
          refine lv_aload_n hx hb d_L_law_1126 rfl (lv_at hl 1 rfl) ?_
          refine lv_iload hx hb d_L_law_1127 (lv_at hl 5 rfl) ?_
          refine lv_iconst (v := 1) hx hb d_L_law_1129 (by decide) ?_
          refine lv_iadd hx hb d_L_law_1130 ?_
          refine xr_sld hx hb hX hw h207 d_L_law_1131 ?_
          refine xr_cV (As := [.int (xs (x4 + (1 : Int32)).toNatClampNeg)]) (rest := []) ⟨hx, hb, hml, hown, hts⟩ hw hM208 hle_u_433 (fun _ _ => ⟨callB_of 1 hts (xgood w_1044) rfl rfl rfl (hts _ (xm w_8)) (hts _ (xm w_1041)) ⟨by decide, by decide, by decide +kernel⟩ ⟨Nat.le_of_ble_eq_true rfl, Nat.le_of_ble_eq_true rfl⟩, (hts _ (xm w_1042)), (hts _ (xm w_1043))⟩) (qc := (R_M, F_M, 14)) rfl rfl h209 rfl hl.1 rfl (Nat.le_of_ble_eq_true rfl) d_L_law_1132 (fun H locs hw => ?_)
          refine W.eq (g2 := F0 m 1135 ls [.int r_434]) rfl ?_
          refine lv_istore (lv' := [(6, .int r_434), (5, .int r_431), (0, .ref x0), (1, .ref x1), (2, .ref x2), (3, .ref x3), (4, .int x4)]) hx hb d_L_law_1135 hl (by decide) rfl (fun ls hl => ?_)
          refine lv_aload_n hx hb d_L_law_1137 rfl (lv_at hl 4 rfl) ?_
          refine xr_cV (As := []) (rest := []) ⟨hx, hb, hml, hown, hts⟩ hw hM210 hle_u_435 (fun _ _ => ⟨callB_of 0 hts (xgood w_915) rfl rfl rfl (hts _ (xm w_8)) (hts _ (xm w_912)) ⟨by decide, by decide, by decide +kernel⟩ ⟨Nat.le_of_ble_eq_true rfl, Nat.le_of_ble_eq_true rfl⟩, (hts _ (xm w_913)), (hts _ (xm w_914))⟩) (qc := (R_M, F_M, 14)) rfl rfl h211 rfl hl.1 rfl (Nat.le_of_ble_eq_true rfl) d_L_law_1138 (fun H locs hw => ?_)
          refine W.eq (g2 := F0 m 1141 ls [.int r_436]) rfl ?_
          refine lv_iload hx hb d_L_law_1141 (lv_at hl 1 rfl) ?_
          refine lv_icmp_eq (tgt := 1148) hx hb d_L_law_1143 (by decide) (fun c9 => absurd c9 hc212) (fun _ => ?_)
          exact w9 p e s m args below meth c A H locs ls F hX hw (lv_sub hl [] rfl)
      by_cases hc21 : ((xs x4.toNatClampNeg) &&& (31 : Int32)) = 17
      · have k := k.2.2.2.2.2.2.2.2.2.2.2.2.2.2.2.2.2.1 hc21
        obtain ⟨h216, k⟩ := k
        obtain ⟨h217, k⟩ := k
        obtain ⟨_, u_440, ⟨r_441, rfl, k⟩, hM218⟩ := c_L_alike l Z x1 (xs (x4 + (1 : Int32)).toNatClampNeg) (xs (x4 + (2 : Int32)).toNatClampNeg) x3 u _ k
        obtain ⟨h219, k⟩ := k
        obtain ⟨h220, k⟩ := k
        obtain ⟨h222, k⟩ := k
        obtain ⟨_, u_444, ⟨r_445, rfl, k⟩, hM221⟩ := c_M_alike l Z x2 (xs (x4 + (1 : Int32)).toNatClampNeg) (xs (x4 + (2 : Int32)).toNatClampNeg) u_440 _ k
        obtain ⟨h224, k⟩ := k
        obtain ⟨_, u_446, ⟨r_447, rfl, k⟩, hM223⟩ := c_M_thrown l Z x2 u_444 _ k
        by_cases hc225 : r_447 = r_441
        · have k := k.1 hc225
          by_cases hc226 : r_441 = 0
          · have k := k.2 hc226
            obtain ⟨z_448, h227, k⟩ := k
            by_cases hc228 : r_445 = 0
            · have k := k.1 hc228
              obtain ⟨rv, v9, hK, hle_u_446, w9⟩ := t_L_law_J1234 l Z u0 sL xs x0 x1 x2 x3 x4 z_448 (0 : Int64) u_446 ih hE175 hE223 hE295 hE367 hE439 hE511 hE599 hE671 hE722 hE739 hE778 hE795 hE811 hE847 hE864 hE903 hE920 hE959 hE976 hE1027 hE1051 hE1090 hE1107 hE1146 hE1163 hE1214 hE1238 hE1301 hE1318 hE1357 hE1374 hE1385 k
              have hle_u_444 : x_le u_444 v9 := (hM223.1).tr hle_u_446
              have hle_u_440 : x_le u_440 v9 := (hM221.1).tr hle_u_444
              have hle_u : x_le u v9 := (hM218.1).tr hle_u_440
              refine ⟨rv, v9, hK, hle_u, ?_⟩
              intro p e s m args below meth c A H locs ls F hX hw hl
              obtain ⟨⟨hx, hb, hml, hown, hts⟩, hr, hlocks, hmn⟩ := id F
              refine lv_iload hx hb d_L_law_23 (lv_at hl 4 rfl) ?_
              refine lv_aload_n hx hb d_L_law_25 rfl (lv_at hl 0 rfl) ?_
              refine xr_slen hx hb hX hw d_L_law_26 ?_
              refine lv_iconst (v := 5) hx hb d_L_law_27 (by decide) ?_
              refine lv_isub hx hb d_L_law_28 ?_
              refine lv_icmp_gt (tgt := 1385) hx hb d_L_law_29 (by decide) (fun c9 => absurd c9 hc2) (fun _ => ?_)
              refine lv_aload_n hx hb d_L_law_32 rfl (lv_at hl 0 rfl) ?_
              refine lv_iload hx hb d_L_law_33 (lv_at hl 4 rfl) ?_
              refine xr_sld hx hb hX hw h3 d_L_law_35 ?_
              refine lv_bipush (v := 31) hx hb d_L_law_36 (by decide) ?_
              refine lv_iand hx hb d_L_law_38 ?_
              refine lv_tableIn (off := 1129) (tgt := 1168) hx hb d_L_law_39 (by rw [hc21]; decide) (by rw [hc21]; decide) (by rw [hc21]; rfl) (by decide) ?_
              refine lv_aload_n hx hb d_L_law_1168 rfl (lv_at hl 1 rfl) ?_
              refine lv_aload_n hx hb d_L_law_1169 rfl (lv_at hl 0 rfl) ?_
              refine lv_iload hx hb d_L_law_1170 (lv_at hl 4 rfl) ?_
              refine lv_iconst (v := 1) hx hb d_L_law_1172 (by decide) ?_
              refine lv_iadd hx hb d_L_law_1173 ?_
              refine xr_sld hx hb hX hw h216 d_L_law_1174 ?_
              refine lv_aload_n hx hb d_L_law_1175 rfl (lv_at hl 0 rfl) ?_
              refine lv_iload hx hb d_L_law_1176 (lv_at hl 4 rfl) ?_
              refine lv_iconst (v := 2) hx hb d_L_law_1178 (by decide) ?_
              refine lv_iadd hx hb d_L_law_1179 ?_
              refine xr_sld hx hb hX hw h217 d_L_law_1180 ?_
              refine lv_aload_n hx hb d_L_law_1181 rfl (lv_at hl 3 rfl) ?_
              refine xr_cSW (n := 4) (hh := hh_L_alike) (As := [.ref x1, .int (xs (x4 + (1 : Int32)).toNatClampNeg), .int (xs (x4 + (2 : Int32)).toNatClampNeg), .ref x3]) (rest := []) ⟨hx, hb, hml, hown, hts⟩ hw hM218 hle_u_440 (xgood w_825) List.mem_cons_self (hts _ (xm w_0)) (hts _ (xm w_823)) (hts _ (xm w_824)) ⟨by decide, by decide, by decide +kernel⟩ ⟨Nat.le_of_ble_eq_true rfl, Nat.le_of_ble_eq_true rfl⟩ ⟨Nat.le_refl _, Nat.le_refl _⟩ rfl hl.1 rfl (Nat.le_of_ble_eq_true rfl) d_L_law_1182 (fun H locs hw => ?_)
              refine W.eq (g2 := F0 m 1185 ls [.int r_441]) rfl ?_
              refine lv_istore (lv' := [(5, .int r_441), (0, .ref x0), (1, .ref x1), (2, .ref x2), (3, .ref x3), (4, .int x4)]) hx hb d_L_law_1185 hl (by decide) rfl (fun ls hl => ?_)
              refine lv_aload_n hx hb d_L_law_1187 rfl (lv_at hl 3 rfl) ?_
              refine lv_aload_n hx hb d_L_law_1188 rfl (lv_at hl 1 rfl) ?_
              refine lv_iload hx hb d_L_law_1189 (lv_at hl 5 rfl) ?_
              refine lv_iconst (v := 1) hx hb d_L_law_1191 (by decide) ?_
              refine lv_iadd hx hb d_L_law_1192 ?_
              refine xr_sld hx hb hX hw h219 d_L_law_1193 ?_
              refine lv_aload_n hx hb d_L_law_1194 rfl (lv_at hl 1 rfl) ?_
              refine lv_iload hx hb d_L_law_1195 (lv_at hl 5 rfl) ?_
              refine lv_iconst (v := 2) hx hb d_L_law_1197 (by decide) ?_
              refine lv_iadd hx hb d_L_law_1198 ?_
              refine xr_sld hx hb hX hw h220 d_L_law_1199 ?_
              refine xr_cV (As := [.int (xs (x4 + (1 : Int32)).toNatClampNeg), .int (xs (x4 + (2 : Int32)).toNatClampNeg)]) (rest := []) ⟨hx, hb, hml, hown, hts⟩ hw hM221 hle_u_444 (fun _ _ => ⟨callB_of 2 hts (xgood w_1048) rfl rfl rfl (hts _ (xm w_8)) (hts _ (xm w_1045)) ⟨by decide, by decide, by decide +kernel⟩ ⟨Nat.le_of_ble_eq_true rfl, Nat.le_of_ble_eq_true rfl⟩, (hts _ (xm w_1046)), (hts _ (xm w_1047))⟩) (qc := (R_M, F_M, 14)) rfl rfl h222 rfl hl.1 rfl (Nat.le_of_ble_eq_true rfl) d_L_law_1200 (fun H locs hw => ?_)
              refine W.eq (g2 := F0 m 1203 ls [.int r_445]) rfl ?_
              refine lv_istore (lv' := [(6, .int r_445), (5, .int r_441), (0, .ref x0), (1, .ref x1), (2, .ref x2), (3, .ref x3), (4, .int x4)]) hx hb d_L_law_1203 hl (by decide) rfl (fun ls hl => ?_)
              refine lv_aload_n hx hb d_L_law_1205 rfl (lv_at hl 4 rfl) ?_
              refine xr_cV (As := []) (rest := []) ⟨hx, hb, hml, hown, hts⟩ hw hM223 hle_u_446 (fun _ _ => ⟨callB_of 0 hts (xgood w_915) rfl rfl rfl (hts _ (xm w_8)) (hts _ (xm w_912)) ⟨by decide, by decide, by decide +kernel⟩ ⟨Nat.le_of_ble_eq_true rfl, Nat.le_of_ble_eq_true rfl⟩, (hts _ (xm w_913)), (hts _ (xm w_914))⟩) (qc := (R_M, F_M, 14)) rfl rfl h224 rfl hl.1 rfl (Nat.le_of_ble_eq_true rfl) d_L_law_1206 (fun H locs hw => ?_)
              refine W.eq (g2 := F0 m 1209 ls [.int r_447]) rfl ?_
              refine lv_iload hx hb d_L_law_1209 (lv_at hl 1 rfl) ?_
              refine lv_icmp_eq (tgt := 1216) hx hb d_L_law_1211 (by decide) (fun _ => ?_) (fun c9 => absurd hc225 c9)
              refine lv_iload hx hb d_L_law_1216 (lv_at hl 1 rfl) ?_
              refine lv_if_ne (tgt := 1240) hx hb d_L_law_1218 (by decide) (fun c9 => absurd hc226 c9) (fun _ => ?_)
              refine lv_aload_n hx hb d_L_law_1221 rfl (lv_at hl 5 rfl) ?_
              refine lv_iconst (v := 0) hx hb d_L_law_1222 (by decide) ?_
              refine xr_lald hx hb hw h227 d_L_law_1223 ?_
              refine lv_iload hx hb d_L_law_1224 (lv_at hl 0 rfl) ?_
              refine lv_if_eq (tgt := 1233) hx hb d_L_law_1226 (by decide) (fun _ => ?_) (fun c9 => absurd hc228 c9)
              refine lv_lconst (v := 0) hx hb d_L_law_1233 (by decide) ?_
              exact w9 p e s m args below meth c A H locs ls F hX hw (lv_sub hl [2, 3, 4, 5, 6] rfl)
            · have k := k.2 hc228
              obtain ⟨rv, v9, hK, hle_u_446, w9⟩ := t_L_law_J1234 l Z u0 sL xs x0 x1 x2 x3 x4 z_448 (1 : Int64) u_446 ih hE175 hE223 hE295 hE367 hE439 hE511 hE599 hE671 hE722 hE739 hE778 hE795 hE811 hE847 hE864 hE903 hE920 hE959 hE976 hE1027 hE1051 hE1090 hE1107 hE1146 hE1163 hE1214 hE1238 hE1301 hE1318 hE1357 hE1374 hE1385 k
              have hle_u_444 : x_le u_444 v9 := (hM223.1).tr hle_u_446
              have hle_u_440 : x_le u_440 v9 := (hM221.1).tr hle_u_444
              have hle_u : x_le u v9 := (hM218.1).tr hle_u_440
              refine ⟨rv, v9, hK, hle_u, ?_⟩
              intro p e s m args below meth c A H locs ls F hX hw hl
              obtain ⟨⟨hx, hb, hml, hown, hts⟩, hr, hlocks, hmn⟩ := id F
              refine lv_iload hx hb d_L_law_23 (lv_at hl 4 rfl) ?_
              refine lv_aload_n hx hb d_L_law_25 rfl (lv_at hl 0 rfl) ?_
              refine xr_slen hx hb hX hw d_L_law_26 ?_
              refine lv_iconst (v := 5) hx hb d_L_law_27 (by decide) ?_
              refine lv_isub hx hb d_L_law_28 ?_
              refine lv_icmp_gt (tgt := 1385) hx hb d_L_law_29 (by decide) (fun c9 => absurd c9 hc2) (fun _ => ?_)
              refine lv_aload_n hx hb d_L_law_32 rfl (lv_at hl 0 rfl) ?_
              refine lv_iload hx hb d_L_law_33 (lv_at hl 4 rfl) ?_
              refine xr_sld hx hb hX hw h3 d_L_law_35 ?_
              refine lv_bipush (v := 31) hx hb d_L_law_36 (by decide) ?_
              refine lv_iand hx hb d_L_law_38 ?_
              refine lv_tableIn (off := 1129) (tgt := 1168) hx hb d_L_law_39 (by rw [hc21]; decide) (by rw [hc21]; decide) (by rw [hc21]; rfl) (by decide) ?_
              refine lv_aload_n hx hb d_L_law_1168 rfl (lv_at hl 1 rfl) ?_
              refine lv_aload_n hx hb d_L_law_1169 rfl (lv_at hl 0 rfl) ?_
              refine lv_iload hx hb d_L_law_1170 (lv_at hl 4 rfl) ?_
              refine lv_iconst (v := 1) hx hb d_L_law_1172 (by decide) ?_
              refine lv_iadd hx hb d_L_law_1173 ?_
              refine xr_sld hx hb hX hw h216 d_L_law_1174 ?_
              refine lv_aload_n hx hb d_L_law_1175 rfl (lv_at hl 0 rfl) ?_
              refine lv_iload hx hb d_L_law_1176 (lv_at hl 4 rfl) ?_
              refine lv_iconst (v := 2) hx hb d_L_law_1178 (by decide) ?_
              refine lv_iadd hx hb d_L_law_1179 ?_
              refine xr_sld hx hb hX hw h217 d_L_law_1180 ?_
              refine lv_aload_n hx hb d_L_law_1181 rfl (lv_at hl 3 rfl) ?_
              refine xr_cSW (n := 4) (hh := hh_L_alike) (As := [.ref x1, .int (xs (x4 + (1 : Int32)).toNatClampNeg), .int (xs (x4 + (2 : Int32)).toNatClampNeg), .ref x3]) (rest := []) ⟨hx, hb, hml, hown, hts⟩ hw hM218 hle_u_440 (xgood w_825) List.mem_cons_self (hts _ (xm w_0)) (hts _ (xm w_823)) (hts _ (xm w_824)) ⟨by decide, by decide, by decide +kernel⟩ ⟨Nat.le_of_ble_eq_true rfl, Nat.le_of_ble_eq_true rfl⟩ ⟨Nat.le_refl _, Nat.le_refl _⟩ rfl hl.1 rfl (Nat.le_of_ble_eq_true rfl) d_L_law_1182 (fun H locs hw => ?_)
              refine W.eq (g2 := F0 m 1185 ls [.int r_441]) rfl ?_
              refine lv_istore (lv' := [(5, .int r_441), (0, .ref x0), (1, .ref x1), (2, .ref x2), (3, .ref x3), (4, .int x4)]) hx hb d_L_law_1185 hl (by decide) rfl (fun ls hl => ?_)
              refine lv_aload_n hx hb d_L_law_1187 rfl (lv_at hl 3 rfl) ?_
              refine lv_aload_n hx hb d_L_law_1188 rfl (lv_at hl 1 rfl) ?_
              refine lv_iload hx hb d_L_law_1189 (lv_at hl 5 rfl) ?_
              refine lv_iconst (v := 1) hx hb d_L_law_1191 (by decide) ?_
              refine lv_iadd hx hb d_L_law_1192 ?_
              refine xr_sld hx hb hX hw h219 d_L_law_1193 ?_
              refine lv_aload_n hx hb d_L_law_1194 rfl (lv_at hl 1 rfl) ?_
              refine lv_iload hx hb d_L_law_1195 (lv_at hl 5 rfl) ?_
              refine lv_iconst (v := 2) hx hb d_L_law_1197 (by decide) ?_
              refine lv_iadd hx hb d_L_law_1198 ?_
              refine xr_sld hx hb hX hw h220 d_L_law_1199 ?_
              refine xr_cV (As := [.int (xs (x4 + (1 : Int32)).toNatClampNeg), .int (xs (x4 + (2 : Int32)).toNatClampNeg)]) (rest := []) ⟨hx, hb, hml, hown, hts⟩ hw hM221 hle_u_444 (fun _ _ => ⟨callB_of 2 hts (xgood w_1048) rfl rfl rfl (hts _ (xm w_8)) (hts _ (xm w_1045)) ⟨by decide, by decide, by decide +kernel⟩ ⟨Nat.le_of_ble_eq_true rfl, Nat.le_of_ble_eq_true rfl⟩, (hts _ (xm w_1046)), (hts _ (xm w_1047))⟩) (qc := (R_M, F_M, 14)) rfl rfl h222 rfl hl.1 rfl (Nat.le_of_ble_eq_true rfl) d_L_law_1200 (fun H locs hw => ?_)
              refine W.eq (g2 := F0 m 1203 ls [.int r_445]) rfl ?_
              refine lv_istore (lv' := [(6, .int r_445), (5, .int r_441), (0, .ref x0), (1, .ref x1), (2, .ref x2), (3, .ref x3), (4, .int x4)]) hx hb d_L_law_1203 hl (by decide) rfl (fun ls hl => ?_)
              refine lv_aload_n hx hb d_L_law_1205 rfl (lv_at hl 4 rfl) ?_
              refine xr_cV (As := []) (rest := []) ⟨hx, hb, hml, hown, hts⟩ hw hM223 hle_u_446 (fun _ _ => ⟨callB_of 0 hts (xgood w_915) rfl rfl rfl (hts _ (xm w_8)) (hts _ (xm w_912)) ⟨by decide, by decide, by decide +kernel⟩ ⟨Nat.le_of_ble_eq_true rfl, Nat.le_of_ble_eq_true rfl⟩, (hts _ (xm w_913)), (hts _ (xm w_914))⟩) (qc := (R_M, F_M, 14)) rfl rfl h224 rfl hl.1 rfl (Nat.le_of_ble_eq_true rfl) d_L_law_1206 (fun H locs hw => ?_)
              refine W.eq (g2 := F0 m 1209 ls [.int r_447]) rfl ?_
              refine lv_iload hx hb d_L_law_1209 (lv_at hl 1 rfl) ?_
              refine lv_icmp_eq (tgt := 1216) hx hb d_L_law_1211 (by decide) (fun _ => ?_) (fun c9 => absurd hc225 c9)
              refine lv_iload hx hb d_L_law_1216 (lv_at hl 1 rfl) ?_
              refine lv_if_ne (tgt := 1240) hx hb d_L_law_1218 (by decide) (fun c9 => absurd hc226 c9) (fun _ => ?_)
              refine lv_aload_n hx hb d_L_law_1221 rfl (lv_at hl 5 rfl) ?_
              refine lv_iconst (v := 0) hx hb d_L_law_1222 (by decide) ?_
              refine xr_lald hx hb hw h227 d_L_law_1223 ?_
              refine lv_iload hx hb d_L_law_1224 (lv_at hl 0 rfl) ?_
              refine lv_if_eq (tgt := 1233) hx hb d_L_law_1226 (by decide) (fun c9 => absurd c9 hc228) (fun _ => ?_)
              refine lv_lconst (v := 1) hx hb d_L_law_1229 (by decide) ?_
              refine lv_goto (tgt := 1234) hx hb d_L_law_1230 (by decide) ?_
              exact w9 p e s m args below meth c A H locs ls F hX hw (lv_sub hl [2, 3, 4, 5, 6] rfl)
          · have k := k.1 hc226
            obtain ⟨rv, v9, hK, hle_u_446, w9⟩ := t_L_law_J1240 l Z u0 sL xs x0 x1 x2 x3 x4 u_446 ih hE175 hE223 hE295 hE367 hE439 hE511 hE599 hE671 hE722 hE739 hE778 hE795 hE811 hE847 hE864 hE903 hE920 hE959 hE976 hE1027 hE1051 hE1090 hE1107 hE1146 hE1163 hE1214 hE1238 hE1301 hE1318 hE1357 hE1374 hE1385 k
            have hle_u_444 : x_le u_444 v9 := (hM223.1).tr hle_u_446
            have hle_u_440 : x_le u_440 v9 := (hM221.1).tr hle_u_444
            have hle_u : x_le u v9 := (hM218.1).tr hle_u_440
            refine ⟨rv, v9, hK, hle_u, ?_⟩
            intro p e s m args below meth c A H locs ls F hX hw hl
            obtain ⟨⟨hx, hb, hml, hown, hts⟩, hr, hlocks, hmn⟩ := id F
            refine lv_iload hx hb d_L_law_23 (lv_at hl 4 rfl) ?_
            refine lv_aload_n hx hb d_L_law_25 rfl (lv_at hl 0 rfl) ?_
            refine xr_slen hx hb hX hw d_L_law_26 ?_
            refine lv_iconst (v := 5) hx hb d_L_law_27 (by decide) ?_
            refine lv_isub hx hb d_L_law_28 ?_
            refine lv_icmp_gt (tgt := 1385) hx hb d_L_law_29 (by decide) (fun c9 => absurd c9 hc2) (fun _ => ?_)
            refine lv_aload_n hx hb d_L_law_32 rfl (lv_at hl 0 rfl) ?_
            refine lv_iload hx hb d_L_law_33 (lv_at hl 4 rfl) ?_
            refine xr_sld hx hb hX hw h3 d_L_law_35 ?_
            refine lv_bipush (v := 31) hx hb d_L_law_36 (by decide) ?_
            refine lv_iand hx hb d_L_law_38 ?_
            refine lv_tableIn (off := 1129) (tgt := 1168) hx hb d_L_law_39 (by rw [hc21]; decide) (by rw [hc21]; decide) (by rw [hc21]; rfl) (by decide) ?_
            refine lv_aload_n hx hb d_L_law_1168 rfl (lv_at hl 1 rfl) ?_
            refine lv_aload_n hx hb d_L_law_1169 rfl (lv_at hl 0 rfl) ?_
            refine lv_iload hx hb d_L_law_1170 (lv_at hl 4 rfl) ?_
            refine lv_iconst (v := 1) hx hb d_L_law_1172 (by decide) ?_
            refine lv_iadd hx hb d_L_law_1173 ?_
            refine xr_sld hx hb hX hw h216 d_L_law_1174 ?_
            refine lv_aload_n hx hb d_L_law_1175 rfl (lv_at hl 0 rfl) ?_
            refine lv_iload hx hb d_L_law_1176 (lv_at hl 4 rfl) ?_
            refine lv_iconst (v := 2) hx hb d_L_law_1178 (by decide) ?_
            refine lv_iadd hx hb d_L_law_1179 ?_
            refine xr_sld hx hb hX hw h217 d_L_law_1180 ?_
            refine lv_aload_n hx hb d_L_law_1181 rfl (lv_at hl 3 rfl) ?_
            refine xr_cSW (n := 4) (hh := hh_L_alike) (As := [.ref x1, .int (xs (x4 + (1 : Int32)).toNatClampNeg), .int (xs (x4 + (2 : Int32)).toNatClampNeg), .ref x3]) (rest := []) ⟨hx, hb, hml, hown, hts⟩ hw hM218 hle_u_440 (xgood w_825) List.mem_cons_self (hts _ (xm w_0)) (hts _ (xm w_823)) (hts _ (xm w_824)) ⟨by decide, by decide, by decide +kernel⟩ ⟨Nat.le_of_ble_eq_true rfl, Nat.le_of_ble_eq_true rfl⟩ ⟨Nat.le_refl _, Nat.le_refl _⟩ rfl hl.1 rfl (Nat.le_of_ble_eq_true rfl) d_L_law_1182 (fun H locs hw => ?_)
            refine W.eq (g2 := F0 m 1185 ls [.int r_441]) rfl ?_
            refine lv_istore (lv' := [(5, .int r_441), (0, .ref x0), (1, .ref x1), (2, .ref x2), (3, .ref x3), (4, .int x4)]) hx hb d_L_law_1185 hl (by decide) rfl (fun ls hl => ?_)
            refine lv_aload_n hx hb d_L_law_1187 rfl (lv_at hl 3 rfl) ?_
            refine lv_aload_n hx hb d_L_law_1188 rfl (lv_at hl 1 rfl) ?_
            refine lv_iload hx hb d_L_law_1189 (lv_at hl 5 rfl) ?_
            refine lv_iconst (v := 1) hx hb d_L_law_1191 (by decide) ?_
            refine lv_iadd hx hb d_L_law_1192 ?_
            refine xr_sld hx hb hX hw h219 d_L_law_1193 ?_
            refine lv_aload_n hx hb d_L_law_1194 rfl (lv_at hl 1 rfl) ?_
            refine lv_iload hx hb d_L_law_1195 (lv_at hl 5 rfl) ?_
            refine lv_iconst (v := 2) hx hb d_L_law_1197 (by decide) ?_
            refine lv_iadd hx hb d_L_law_1198 ?_
            refine xr_sld hx hb hX hw h220 d_L_law_1199 ?_
            refine xr_cV (As := [.int (xs (x4 + (1 : Int32)).toNatClampNeg), .int (xs (x4 + (2 : Int32)).toNatClampNeg)]) (rest := []) ⟨hx, hb, hml, hown, hts⟩ hw hM221 hle_u_444 (fun _ _ => ⟨callB_of 2 hts (xgood w_1048) rfl rfl rfl (hts _ (xm w_8)) (hts _ (xm w_1045)) ⟨by decide, by decide, by decide +kernel⟩ ⟨Nat.le_of_ble_eq_true rfl, Nat.le_of_ble_eq_true rfl⟩, (hts _ (xm w_1046)), (hts _ (xm w_1047))⟩) (qc := (R_M, F_M, 14)) rfl rfl h222 rfl hl.1 rfl (Nat.le_of_ble_eq_true rfl) d_L_law_1200 (fun H locs hw => ?_)
            refine W.eq (g2 := F0 m 1203 ls [.int r_445]) rfl ?_
            refine lv_istore (lv' := [(6, .int r_445), (5, .int r_441), (0, .ref x0), (1, .ref x1), (2, .ref x2), (3, .ref x3), (4, .int x4)]) hx hb d_L_law_1203 hl (by decide) rfl (fun ls hl => ?_)
            refine lv_aload_n hx hb d_L_law_1205 rfl (lv_at hl 4 rfl) ?_
            refine xr_cV (As := []) (rest := []) ⟨hx, hb, hml, hown, hts⟩ hw hM223 hle_u_446 (fun _ _ => ⟨callB_of 0 hts (xgood w_915) rfl rfl rfl (hts _ (xm w_8)) (hts _ (xm w_912)) ⟨by decide, by decide, by decide +kernel⟩ ⟨Nat.le_of_ble_eq_true rfl, Nat.le_of_ble_eq_true rfl⟩, (hts _ (xm w_913)), (hts _ (xm w_914))⟩) (qc := (R_M, F_M, 14)) rfl rfl h224 rfl hl.1 rfl (Nat.le_of_ble_eq_true rfl) d_L_law_1206 (fun H locs hw => ?_)
            refine W.eq (g2 := F0 m 1209 ls [.int r_447]) rfl ?_
            refine lv_iload hx hb d_L_law_1209 (lv_at hl 1 rfl) ?_
            refine lv_icmp_eq (tgt := 1216) hx hb d_L_law_1211 (by decide) (fun _ => ?_) (fun c9 => absurd hc225 c9)
            refine lv_iload hx hb d_L_law_1216 (lv_at hl 1 rfl) ?_
            refine lv_if_ne (tgt := 1240) hx hb d_L_law_1218 (by decide) (fun _ => ?_) (fun c9 => absurd c9 hc226)
            exact w9 p e s m args below meth c A H locs ls F hX hw (lv_sub hl [2, 3, 4, 5, 6] rfl)
        · have k := k.2 hc225
          obtain ⟨rv, v9, hK, hle_u_446, w9⟩ := hE1214 u_446 k
          have hle_u_444 : x_le u_444 v9 := (hM223.1).tr hle_u_446
          have hle_u_440 : x_le u_440 v9 := (hM221.1).tr hle_u_444
          have hle_u : x_le u v9 := (hM218.1).tr hle_u_440
          refine ⟨rv, v9, hK, hle_u, ?_⟩
          intro p e s m args below meth c A H locs ls F hX hw hl
          obtain ⟨⟨hx, hb, hml, hown, hts⟩, hr, hlocks, hmn⟩ := id F
          refine lv_iload hx hb d_L_law_23 (lv_at hl 4 rfl) ?_
          refine lv_aload_n hx hb d_L_law_25 rfl (lv_at hl 0 rfl) ?_
          refine xr_slen hx hb hX hw d_L_law_26 ?_
          refine lv_iconst (v := 5) hx hb d_L_law_27 (by decide) ?_
          refine lv_isub hx hb d_L_law_28 ?_
          refine lv_icmp_gt (tgt := 1385) hx hb d_L_law_29 (by decide) (fun c9 => absurd c9 hc2) (fun _ => ?_)
          refine lv_aload_n hx hb d_L_law_32 rfl (lv_at hl 0 rfl) ?_
          refine lv_iload hx hb d_L_law_33 (lv_at hl 4 rfl) ?_
          refine xr_sld hx hb hX hw h3 d_L_law_35 ?_
          refine lv_bipush (v := 31) hx hb d_L_law_36 (by decide) ?_
          refine lv_iand hx hb d_L_law_38 ?_
          refine lv_tableIn (off := 1129) (tgt := 1168) hx hb d_L_law_39 (by rw [hc21]; decide) (by rw [hc21]; decide) (by rw [hc21]; rfl) (by decide) ?_
          refine lv_aload_n hx hb d_L_law_1168 rfl (lv_at hl 1 rfl) ?_
          refine lv_aload_n hx hb d_L_law_1169 rfl (lv_at hl 0 rfl) ?_
          refine lv_iload hx hb d_L_law_1170 (lv_at hl 4 rfl) ?_
          refine lv_iconst (v := 1) hx hb d_L_law_1172 (by decide) ?_
          refine lv_iadd hx hb d_L_law_1173 ?_
          refine xr_sld hx hb hX hw h216 d_L_law_1174 ?_
          refine lv_aload_n hx hb d_L_law_1175 rfl (lv_at hl 0 rfl) ?_
          refine lv_iload hx hb d_L_law_1176 (lv_at hl 4 rfl) ?_
          refine lv_iconst (v := 2) hx hb d_L_law_1178 (by decide) ?_
          refine lv_iadd hx hb d_L_law_1179 ?_
          refine xr_sld hx hb hX hw h217 d_L_law_1180 ?_
          refine lv_aload_n hx hb d_L_law_1181 rfl (lv_at hl 3 rfl) ?_
          refine xr_cSW (n := 4) (hh := hh_L_alike) (As := [.ref x1, .int (xs (x4 + (1 : Int32)).toNatClampNeg), .int (xs (x4 + (2 : Int32)).toNatClampNeg), .ref x3]) (rest := []) ⟨hx, hb, hml, hown, hts⟩ hw hM218 hle_u_440 (xgood w_825) List.mem_cons_self (hts _ (xm w_0)) (hts _ (xm w_823)) (hts _ (xm w_824)) ⟨by decide, by decide, by decide +kernel⟩ ⟨Nat.le_of_ble_eq_true rfl, Nat.le_of_ble_eq_true rfl⟩ ⟨Nat.le_refl _, Nat.le_refl _⟩ rfl hl.1 rfl (Nat.le_of_ble_eq_true rfl) d_L_law_1182 (fun H locs hw => ?_)
          refine W.eq (g2 := F0 m 1185 ls [.int r_441]) rfl ?_
          refine lv_istore (lv' := [(5, .int r_441), (0, .ref x0), (1, .ref x1), (2, .ref x2), (3, .ref x3), (4, .int x4)]) hx hb d_L_law_1185 hl (by decide) rfl (fun ls hl => ?_)
          refine lv_aload_n hx hb d_L_law_1187 rfl (lv_at hl 3 rfl) ?_
          refine lv_aload_n hx hb d_L_law_1188 rfl (lv_at hl 1 rfl) ?_
          refine lv_iload hx hb d_L_law_1189 (lv_at hl 5 rfl) ?_
          refine lv_iconst (v := 1) hx hb d_L_law_1191 (by decide) ?_
          refine lv_iadd hx hb d_L_law_1192 ?_
          refine xr_sld hx hb hX hw h219 d_L_law_1193 ?_
          refine lv_aload_n hx hb d_L_law_1194 rfl (lv_at hl 1 rfl) ?_
          refine lv_iload hx hb d_L_law_1195 (lv_at hl 5 rfl) ?_
          refine lv_iconst (v := 2) hx hb d_L_law_1197 (by decide) ?_
          refine lv_iadd hx hb d_L_law_1198 ?_
          refine xr_sld hx hb hX hw h220 d_L_law_1199 ?_
          refine xr_cV (As := [.int (xs (x4 + (1 : Int32)).toNatClampNeg), .int (xs (x4 + (2 : Int32)).toNatClampNeg)]) (rest := []) ⟨hx, hb, hml, hown, hts⟩ hw hM221 hle_u_444 (fun _ _ => ⟨callB_of 2 hts (xgood w_1048) rfl rfl rfl (hts _ (xm w_8)) (hts _ (xm w_1045)) ⟨by decide, by decide, by decide +kernel⟩ ⟨Nat.le_of_ble_eq_true rfl, Nat.le_of_ble_eq_true rfl⟩, (hts _ (xm w_1046)), (hts _ (xm w_1047))⟩) (qc := (R_M, F_M, 14)) rfl rfl h222 rfl hl.1 rfl (Nat.le_of_ble_eq_true rfl) d_L_law_1200 (fun H locs hw => ?_)
          refine W.eq (g2 := F0 m 1203 ls [.int r_445]) rfl ?_
          refine lv_istore (lv' := [(6, .int r_445), (5, .int r_441), (0, .ref x0), (1, .ref x1), (2, .ref x2), (3, .ref x3), (4, .int x4)]) hx hb d_L_law_1203 hl (by decide) rfl (fun ls hl => ?_)
          refine lv_aload_n hx hb d_L_law_1205 rfl (lv_at hl 4 rfl) ?_
          refine xr_cV (As := []) (rest := []) ⟨hx, hb, hml, hown, hts⟩ hw hM223 hle_u_446 (fun _ _ => ⟨callB_of 0 hts (xgood w_915) rfl rfl rfl (hts _ (xm w_8)) (hts _ (xm w_912)) ⟨by decide, by decide, by decide +kernel⟩ ⟨Nat.le_of_ble_eq_true rfl, Nat.le_of_ble_eq_true rfl⟩, (hts _ (xm w_913)), (hts _ (xm w_914))⟩) (qc := (R_M, F_M, 14)) rfl rfl h224 rfl hl.1 rfl (Nat.le_of_ble_eq_true rfl) d_L_law_1206 (fun H locs hw => ?_)
          refine W.eq (g2 := F0 m 1209 ls [.int r_447]) rfl ?_
          refine lv_iload hx hb d_L_law_1209 (lv_at hl 1 rfl) ?_
          refine lv_icmp_eq (tgt := 1216) hx hb d_L_law_1211 (by decide) (fun c9 => absurd c9 hc225) (fun _ => ?_)
          exact w9 p e s m args below meth c A H locs ls F hX hw (lv_sub hl [] rfl)
      by_cases hc22 : ((xs x4.toNatClampNeg) &&& (31 : Int32)) = 18
      · have k := k.2.2.2.2.2.2.2.2.2.2.2.2.2.2.2.2.2.2.1 hc22
        obtain ⟨h229, k⟩ := k
        obtain ⟨h230, k⟩ := k
        obtain ⟨h231, k⟩ := k
        obtain ⟨_, u_452, ⟨r_453, rfl, k⟩, hM232⟩ := c_L_asked l Z x1 (xs (x4 + (1 : Int32)).toNatClampNeg) (xs (x4 + (2 : Int32)).toNatClampNeg) (xs (x4 + (3 : Int32)).toNatClampNeg) x3 u _ k
        obtain ⟨h233, k⟩ := k
        obtain ⟨h234, k⟩ := k
        obtain ⟨h235, k⟩ := k
        obtain ⟨h237, k⟩ := k
        obtain ⟨_, u_457, ⟨r_458, rfl, k⟩, hM236⟩ := c_M_asked l Z x2 (xs (x4 + (1 : Int32)).toNatClampNeg) (xs (x4 + (2 : Int32)).toNatClampNeg) (xs (x4 + (3 : Int32)).toNatClampNeg) u_452 _ k
        obtain ⟨h239, k⟩ := k
        obtain ⟨_, u_459, ⟨r_460, rfl, k⟩, hM238⟩ := c_M_thrown l Z x2 u_457 _ k
        by_cases hc240 : r_460 = r_453
        · have k := k.1 hc240
          by_cases hc241 : r_453 = 0
          · have k := k.2 hc241
            obtain ⟨z_461, h242, k⟩ := k
            by_cases hc243 : (lg_cmp z_461 (r_458.toInt64)) = 0
            · have k := k.1 hc243
              obtain ⟨rv, v9, hK, hle_u_459, w9⟩ := t_L_law_J1320 l Z u0 sL xs x0 x1 x2 x3 x4 u_459 ih hE175 hE223 hE295 hE367 hE439 hE511 hE599 hE671 hE722 hE739 hE778 hE795 hE811 hE847 hE864 hE903 hE920 hE959 hE976 hE1027 hE1051 hE1090 hE1107 hE1146 hE1163 hE1214 hE1238 hE1301 hE1318 hE1357 hE1374 hE1385 k
              have hle_u_457 : x_le u_457 v9 := (hM238.1).tr hle_u_459
              have hle_u_452 : x_le u_452 v9 := (hM236.1).tr hle_u_457
              have hle_u : x_le u v9 := (hM232.1).tr hle_u_452
              refine ⟨rv, v9, hK, hle_u, ?_⟩
              intro p e s m args below meth c A H locs ls F hX hw hl
              obtain ⟨⟨hx, hb, hml, hown, hts⟩, hr, hlocks, hmn⟩ := id F
              refine lv_iload hx hb d_L_law_23 (lv_at hl 4 rfl) ?_
              refine lv_aload_n hx hb d_L_law_25 rfl (lv_at hl 0 rfl) ?_
              refine xr_slen hx hb hX hw d_L_law_26 ?_
              refine lv_iconst (v := 5) hx hb d_L_law_27 (by decide) ?_
              refine lv_isub hx hb d_L_law_28 ?_
              refine lv_icmp_gt (tgt := 1385) hx hb d_L_law_29 (by decide) (fun c9 => absurd c9 hc2) (fun _ => ?_)
              refine lv_aload_n hx hb d_L_law_32 rfl (lv_at hl 0 rfl) ?_
              refine lv_iload hx hb d_L_law_33 (lv_at hl 4 rfl) ?_
              refine xr_sld hx hb hX hw h3 d_L_law_35 ?_
              refine lv_bipush (v := 31) hx hb d_L_law_36 (by decide) ?_
              refine lv_iand hx hb d_L_law_38 ?_
              refine lv_tableIn (off := 1204) (tgt := 1243) hx hb d_L_law_39 (by rw [hc22]; decide) (by rw [hc22]; decide) (by rw [hc22]; rfl) (by decide) ?_
              refine lv_aload_n hx hb d_L_law_1243 rfl (lv_at hl 1 rfl) ?_
              refine lv_aload_n hx hb d_L_law_1244 rfl (lv_at hl 0 rfl) ?_
              refine lv_iload hx hb d_L_law_1245 (lv_at hl 4 rfl) ?_
              refine lv_iconst (v := 1) hx hb d_L_law_1247 (by decide) ?_
              refine lv_iadd hx hb d_L_law_1248 ?_
              refine xr_sld hx hb hX hw h229 d_L_law_1249 ?_
              refine lv_aload_n hx hb d_L_law_1250 rfl (lv_at hl 0 rfl) ?_
              refine lv_iload hx hb d_L_law_1251 (lv_at hl 4 rfl) ?_
              refine lv_iconst (v := 2) hx hb d_L_law_1253 (by decide) ?_
              refine lv_iadd hx hb d_L_law_1254 ?_
              refine xr_sld hx hb hX hw h230 d_L_law_1255 ?_
              refine lv_aload_n hx hb d_L_law_1256 rfl (lv_at hl 0 rfl) ?_
              refine lv_iload hx hb d_L_law_1257 (lv_at hl 4 rfl) ?_
              refine lv_iconst (v := 3) hx hb d_L_law_1259 (by decide) ?_
              refine lv_iadd hx hb d_L_law_1260 ?_
              refine xr_sld hx hb hX hw h231 d_L_law_1261 ?_
              refine lv_aload_n hx hb d_L_law_1262 rfl (lv_at hl 3 rfl) ?_
              refine xr_cSW (n := 5) (hh := hh_L_asked) (As := [.ref x1, .int (xs (x4 + (1 : Int32)).toNatClampNeg), .int (xs (x4 + (2 : Int32)).toNatClampNeg), .int (xs (x4 + (3 : Int32)).toNatClampNeg), .ref x3]) (rest := []) ⟨hx, hb, hml, hown, hts⟩ hw hM232 hle_u_452 (xgood w_836) List.mem_cons_self (hts _ (xm w_0)) (hts _ (xm w_834)) (hts _ (xm w_835)) ⟨by decide, by decide, by decide +kernel⟩ ⟨Nat.le_of_ble_eq_true rfl, Nat.le_of_ble_eq_true rfl⟩ ⟨Nat.le_refl _, Nat.le_refl _⟩ rfl hl.1 rfl (Nat.le_of_ble_eq_true rfl) d_L_law_1263 (fun H locs hw => ?_)
              refine W.eq (g2 := F0 m 1266 ls [.int r_453]) rfl ?_
              refine lv_istore (lv' := [(5, .int r_453), (0, .ref x0), (1, .ref x1), (2, .ref x2), (3, .ref x3), (4, .int x4)]) hx hb d_L_law_1266 hl (by decide) rfl (fun ls hl => ?_)
              refine lv_aload_n hx hb d_L_law_1268 rfl (lv_at hl 3 rfl) ?_
              refine lv_aload_n hx hb d_L_law_1269 rfl (lv_at hl 1 rfl) ?_
              refine lv_iload hx hb d_L_law_1270 (lv_at hl 5 rfl) ?_
              refine lv_iconst (v := 1) hx hb d_L_law_1272 (by decide) ?_
              refine lv_iadd hx hb d_L_law_1273 ?_
              refine xr_sld hx hb hX hw h233 d_L_law_1274 ?_
              refine lv_aload_n hx hb d_L_law_1275 rfl (lv_at hl 1 rfl) ?_
              refine lv_iload hx hb d_L_law_1276 (lv_at hl 5 rfl) ?_
              refine lv_iconst (v := 2) hx hb d_L_law_1278 (by decide) ?_
              refine lv_iadd hx hb d_L_law_1279 ?_
              refine xr_sld hx hb hX hw h234 d_L_law_1280 ?_
              refine lv_aload_n hx hb d_L_law_1281 rfl (lv_at hl 1 rfl) ?_
              refine lv_iload hx hb d_L_law_1282 (lv_at hl 5 rfl) ?_
              refine lv_iconst (v := 3) hx hb d_L_law_1284 (by decide) ?_
              refine lv_iadd hx hb d_L_law_1285 ?_
              refine xr_sld hx hb hX hw h235 d_L_law_1286 ?_
              refine xr_cV (As := [.int (xs (x4 + (1 : Int32)).toNatClampNeg), .int (xs (x4 + (2 : Int32)).toNatClampNeg), .int (xs (x4 + (3 : Int32)).toNatClampNeg)]) (rest := []) ⟨hx, hb, hml, hown, hts⟩ hw hM236 hle_u_457 (fun _ _ => ⟨callB_of 3 hts (xgood w_1052) rfl rfl rfl (hts _ (xm w_8)) (hts _ (xm w_1049)) ⟨by decide, by decide, by decide +kernel⟩ ⟨Nat.le_of_ble_eq_true rfl, Nat.le_of_ble_eq_true rfl⟩, (hts _ (xm w_1050)), (hts _ (xm w_1051))⟩) (qc := (R_M, F_M, 14)) rfl rfl h237 rfl hl.1 rfl (Nat.le_of_ble_eq_true rfl) d_L_law_1287 (fun H locs hw => ?_)
              refine W.eq (g2 := F0 m 1290 ls [.int r_458]) rfl ?_
              refine lv_istore (lv' := [(6, .int r_458), (5, .int r_453), (0, .ref x0), (1, .ref x1), (2, .ref x2), (3, .ref x3), (4, .int x4)]) hx hb d_L_law_1290 hl (by decide) rfl (fun ls hl => ?_)
              refine lv_aload_n hx hb d_L_law_1292 rfl (lv_at hl 4 rfl) ?_
              refine xr_cV (As := []) (rest := []) ⟨hx, hb, hml, hown, hts⟩ hw hM238 hle_u_459 (fun _ _ => ⟨callB_of 0 hts (xgood w_915) rfl rfl rfl (hts _ (xm w_8)) (hts _ (xm w_912)) ⟨by decide, by decide, by decide +kernel⟩ ⟨Nat.le_of_ble_eq_true rfl, Nat.le_of_ble_eq_true rfl⟩, (hts _ (xm w_913)), (hts _ (xm w_914))⟩) (qc := (R_M, F_M, 14)) rfl rfl h239 rfl hl.1 rfl (Nat.le_of_ble_eq_true rfl) d_L_law_1293 (fun H locs hw => ?_)
              refine W.eq (g2 := F0 m 1296 ls [.int r_460]) rfl ?_
              refine lv_iload hx hb d_L_law_1296 (lv_at hl 1 rfl) ?_
              refine lv_icmp_eq (tgt := 1303) hx hb d_L_law_1298 (by decide) (fun _ => ?_) (fun c9 => absurd hc240 c9)
              refine lv_iload hx hb d_L_law_1303 (lv_at hl 1 rfl) ?_
              refine lv_if_ne (tgt := 1320) hx hb d_L_law_1305 (by decide) (fun c9 => absurd hc241 c9) (fun _ => ?_)
              refine lv_aload_n hx hb d_L_law_1308 rfl (lv_at hl 5 rfl) ?_
              refine lv_iconst (v := 0) hx hb d_L_law_1309 (by decide) ?_
              refine xr_lald hx hb hw h242 d_L_law_1310 ?_
              refine lv_iload hx hb d_L_law_1311 (lv_at hl 0 rfl) ?_
              refine lv_i2l hx hb d_L_law_1313 rfl ?_
              refine W.lcmp hx hb d_L_law_1314 ?_
              refine lv_if_eq (tgt := 1320) hx hb d_L_law_1315 (by decide) (fun _ => ?_) (fun c9 => absurd hc243 c9)
              exact w9 p e s m args below meth c A H locs ls F hX hw (lv_sub hl [2, 3, 4, 5, 6] rfl)
            · have k := k.2 hc243
              obtain ⟨rv, v9, hK, hle_u_459, w9⟩ := hE1318 u_459 k
              have hle_u_457 : x_le u_457 v9 := (hM238.1).tr hle_u_459
              have hle_u_452 : x_le u_452 v9 := (hM236.1).tr hle_u_457
              have hle_u : x_le u v9 := (hM232.1).tr hle_u_452
              refine ⟨rv, v9, hK, hle_u, ?_⟩
              intro p e s m args below meth c A H locs ls F hX hw hl
              obtain ⟨⟨hx, hb, hml, hown, hts⟩, hr, hlocks, hmn⟩ := id F
              refine lv_iload hx hb d_L_law_23 (lv_at hl 4 rfl) ?_
              refine lv_aload_n hx hb d_L_law_25 rfl (lv_at hl 0 rfl) ?_
              refine xr_slen hx hb hX hw d_L_law_26 ?_
              refine lv_iconst (v := 5) hx hb d_L_law_27 (by decide) ?_
              refine lv_isub hx hb d_L_law_28 ?_
              refine lv_icmp_gt (tgt := 1385) hx hb d_L_law_29 (by decide) (fun c9 => absurd c9 hc2) (fun _ => ?_)
              refine lv_aload_n hx hb d_L_law_32 rfl (lv_at hl 0 rfl) ?_
              refine lv_iload hx hb d_L_law_33 (lv_at hl 4 rfl) ?_
              refine xr_sld hx hb hX hw h3 d_L_law_35 ?_
              refine lv_bipush (v := 31) hx hb d_L_law_36 (by decide) ?_
              refine lv_iand hx hb d_L_law_38 ?_
              refine lv_tableIn (off := 1204) (tgt := 1243) hx hb d_L_law_39 (by rw [hc22]; decide) (by rw [hc22]; decide) (by rw [hc22]; rfl) (by decide) ?_
              refine lv_aload_n hx hb d_L_law_1243 rfl (lv_at hl 1 rfl) ?_
              refine lv_aload_n hx hb d_L_law_1244 rfl (lv_at hl 0 rfl) ?_
              refine lv_iload hx hb d_L_law_1245 (lv_at hl 4 rfl) ?_
              refine lv_iconst (v := 1) hx hb d_L_law_1247 (by decide) ?_
              refine lv_iadd hx hb d_L_law_1248 ?_
              refine xr_sld hx hb hX hw h229 d_L_law_1249 ?_
              refine lv_aload_n hx hb d_L_law_1250 rfl (lv_at hl 0 rfl) ?_
              refine lv_iload hx hb d_L_law_1251 (lv_at hl 4 rfl) ?_
              refine lv_iconst (v := 2) hx hb d_L_law_1253 (by decide) ?_
              refine lv_iadd hx hb d_L_law_1254 ?_
              refine xr_sld hx hb hX hw h230 d_L_law_1255 ?_
              refine lv_aload_n hx hb d_L_law_1256 rfl (lv_at hl 0 rfl) ?_
              refine lv_iload hx hb d_L_law_1257 (lv_at hl 4 rfl) ?_
              refine lv_iconst (v := 3) hx hb d_L_law_1259 (by decide) ?_
              refine lv_iadd hx hb d_L_law_1260 ?_
              refine xr_sld hx hb hX hw h231 d_L_law_1261 ?_
              refine lv_aload_n hx hb d_L_law_1262 rfl (lv_at hl 3 rfl) ?_
              refine xr_cSW (n := 5) (hh := hh_L_asked) (As := [.ref x1, .int (xs (x4 + (1 : Int32)).toNatClampNeg), .int (xs (x4 + (2 : Int32)).toNatClampNeg), .int (xs (x4 + (3 : Int32)).toNatClampNeg), .ref x3]) (rest := []) ⟨hx, hb, hml, hown, hts⟩ hw hM232 hle_u_452 (xgood w_836) List.mem_cons_self (hts _ (xm w_0)) (hts _ (xm w_834)) (hts _ (xm w_835)) ⟨by decide, by decide, by decide +kernel⟩ ⟨Nat.le_of_ble_eq_true rfl, Nat.le_of_ble_eq_true rfl⟩ ⟨Nat.le_refl _, Nat.le_refl _⟩ rfl hl.1 rfl (Nat.le_of_ble_eq_true rfl) d_L_law_1263 (fun H locs hw => ?_)
              refine W.eq (g2 := F0 m 1266 ls [.int r_453]) rfl ?_
              refine lv_istore (lv' := [(5, .int r_453), (0, .ref x0), (1, .ref x1), (2, .ref x2), (3, .ref x3), (4, .int x4)]) hx hb d_L_law_1266 hl (by decide) rfl (fun ls hl => ?_)
              refine lv_aload_n hx hb d_L_law_1268 rfl (lv_at hl 3 rfl) ?_
              refine lv_aload_n hx hb d_L_law_1269 rfl (lv_at hl 1 rfl) ?_
              refine lv_iload hx hb d_L_law_1270 (lv_at hl 5 rfl) ?_
              refine lv_iconst (v := 1) hx hb d_L_law_1272 (by decide) ?_
              refine lv_iadd hx hb d_L_law_1273 ?_
              refine xr_sld hx hb hX hw h233 d_L_law_1274 ?_
              refine lv_aload_n hx hb d_L_law_1275 rfl (lv_at hl 1 rfl) ?_
              refine lv_iload hx hb d_L_law_1276 (lv_at hl 5 rfl) ?_
              refine lv_iconst (v := 2) hx hb d_L_law_1278 (by decide) ?_
              refine lv_iadd hx hb d_L_law_1279 ?_
              refine xr_sld hx hb hX hw h234 d_L_law_1280 ?_
              refine lv_aload_n hx hb d_L_law_1281 rfl (lv_at hl 1 rfl) ?_
              refine lv_iload hx hb d_L_law_1282 (lv_at hl 5 rfl) ?_
              refine lv_iconst (v := 3) hx hb d_L_law_1284 (by decide) ?_
              refine lv_iadd hx hb d_L_law_1285 ?_
              refine xr_sld hx hb hX hw h235 d_L_law_1286 ?_
              refine xr_cV (As := [.int (xs (x4 + (1 : Int32)).toNatClampNeg), .int (xs (x4 + (2 : Int32)).toNatClampNeg), .int (xs (x4 + (3 : Int32)).toNatClampNeg)]) (rest := []) ⟨hx, hb, hml, hown, hts⟩ hw hM236 hle_u_457 (fun _ _ => ⟨callB_of 3 hts (xgood w_1052) rfl rfl rfl (hts _ (xm w_8)) (hts _ (xm w_1049)) ⟨by decide, by decide, by decide +kernel⟩ ⟨Nat.le_of_ble_eq_true rfl, Nat.le_of_ble_eq_true rfl⟩, (hts _ (xm w_1050)), (hts _ (xm w_1051))⟩) (qc := (R_M, F_M, 14)) rfl rfl h237 rfl hl.1 rfl (Nat.le_of_ble_eq_true rfl) d_L_law_1287 (fun H locs hw => ?_)
              refine W.eq (g2 := F0 m 1290 ls [.int r_458]) rfl ?_
              refine lv_istore (lv' := [(6, .int r_458), (5, .int r_453), (0, .ref x0), (1, .ref x1), (2, .ref x2), (3, .ref x3), (4, .int x4)]) hx hb d_L_law_1290 hl (by decide) rfl (fun ls hl => ?_)
              refine lv_aload_n hx hb d_L_law_1292 rfl (lv_at hl 4 rfl) ?_
              refine xr_cV (As := []) (rest := []) ⟨hx, hb, hml, hown, hts⟩ hw hM238 hle_u_459 (fun _ _ => ⟨callB_of 0 hts (xgood w_915) rfl rfl rfl (hts _ (xm w_8)) (hts _ (xm w_912)) ⟨by decide, by decide, by decide +kernel⟩ ⟨Nat.le_of_ble_eq_true rfl, Nat.le_of_ble_eq_true rfl⟩, (hts _ (xm w_913)), (hts _ (xm w_914))⟩) (qc := (R_M, F_M, 14)) rfl rfl h239 rfl hl.1 rfl (Nat.le_of_ble_eq_true rfl) d_L_law_1293 (fun H locs hw => ?_)
              refine W.eq (g2 := F0 m 1296 ls [.int r_460]) rfl ?_
              refine lv_iload hx hb d_L_law_1296 (lv_at hl 1 rfl) ?_
              refine lv_icmp_eq (tgt := 1303) hx hb d_L_law_1298 (by decide) (fun _ => ?_) (fun c9 => absurd hc240 c9)
              refine lv_iload hx hb d_L_law_1303 (lv_at hl 1 rfl) ?_
              refine lv_if_ne (tgt := 1320) hx hb d_L_law_1305 (by decide) (fun c9 => absurd hc241 c9) (fun _ => ?_)
              refine lv_aload_n hx hb d_L_law_1308 rfl (lv_at hl 5 rfl) ?_
              refine lv_iconst (v := 0) hx hb d_L_law_1309 (by decide) ?_
              refine xr_lald hx hb hw h242 d_L_law_1310 ?_
              refine lv_iload hx hb d_L_law_1311 (lv_at hl 0 rfl) ?_
              refine lv_i2l hx hb d_L_law_1313 rfl ?_
              refine W.lcmp hx hb d_L_law_1314 ?_
              refine lv_if_eq (tgt := 1320) hx hb d_L_law_1315 (by decide) (fun c9 => absurd c9 hc243) (fun _ => ?_)
              exact w9 p e s m args below meth c A H locs ls F hX hw (lv_sub hl [] rfl)
          · have k := k.1 hc241
            obtain ⟨rv, v9, hK, hle_u_459, w9⟩ := t_L_law_J1320 l Z u0 sL xs x0 x1 x2 x3 x4 u_459 ih hE175 hE223 hE295 hE367 hE439 hE511 hE599 hE671 hE722 hE739 hE778 hE795 hE811 hE847 hE864 hE903 hE920 hE959 hE976 hE1027 hE1051 hE1090 hE1107 hE1146 hE1163 hE1214 hE1238 hE1301 hE1318 hE1357 hE1374 hE1385 k
            have hle_u_457 : x_le u_457 v9 := (hM238.1).tr hle_u_459
            have hle_u_452 : x_le u_452 v9 := (hM236.1).tr hle_u_457
            have hle_u : x_le u v9 := (hM232.1).tr hle_u_452
            refine ⟨rv, v9, hK, hle_u, ?_⟩
            intro p e s m args below meth c A H locs ls F hX hw hl
            obtain ⟨⟨hx, hb, hml, hown, hts⟩, hr, hlocks, hmn⟩ := id F
            refine lv_iload hx hb d_L_law_23 (lv_at hl 4 rfl) ?_
            refine lv_aload_n hx hb d_L_law_25 rfl (lv_at hl 0 rfl) ?_
            refine xr_slen hx hb hX hw d_L_law_26 ?_
            refine lv_iconst (v := 5) hx hb d_L_law_27 (by decide) ?_
            refine lv_isub hx hb d_L_law_28 ?_
            refine lv_icmp_gt (tgt := 1385) hx hb d_L_law_29 (by decide) (fun c9 => absurd c9 hc2) (fun _ => ?_)
            refine lv_aload_n hx hb d_L_law_32 rfl (lv_at hl 0 rfl) ?_
            refine lv_iload hx hb d_L_law_33 (lv_at hl 4 rfl) ?_
            refine xr_sld hx hb hX hw h3 d_L_law_35 ?_
            refine lv_bipush (v := 31) hx hb d_L_law_36 (by decide) ?_
            refine lv_iand hx hb d_L_law_38 ?_
            refine lv_tableIn (off := 1204) (tgt := 1243) hx hb d_L_law_39 (by rw [hc22]; decide) (by rw [hc22]; decide) (by rw [hc22]; rfl) (by decide) ?_
            refine lv_aload_n hx hb d_L_law_1243 rfl (lv_at hl 1 rfl) ?_
            refine lv_aload_n hx hb d_L_law_1244 rfl (lv_at hl 0 rfl) ?_
            refine lv_iload hx hb d_L_law_1245 (lv_at hl 4 rfl) ?_
            refine lv_iconst (v := 1) hx hb d_L_law_1247 (by decide) ?_
            refine lv_iadd hx hb d_L_law_1248 ?_
            refine xr_sld hx hb hX hw h229 d_L_law_1249 ?_
            refine lv_aload_n hx hb d_L_law_1250 rfl (lv_at hl 0 rfl) ?_
            refine lv_iload hx hb d_L_law_1251 (lv_at hl 4 rfl) ?_
            refine lv_iconst (v := 2) hx hb d_L_law_1253 (by decide) ?_
            refine lv_iadd hx hb d_L_law_1254 ?_
            refine xr_sld hx hb hX hw h230 d_L_law_1255 ?_
            refine lv_aload_n hx hb d_L_law_1256 rfl (lv_at hl 0 rfl) ?_
            refine lv_iload hx hb d_L_law_1257 (lv_at hl 4 rfl) ?_
            refine lv_iconst (v := 3) hx hb d_L_law_1259 (by decide) ?_
            refine lv_iadd hx hb d_L_law_1260 ?_
            refine xr_sld hx hb hX hw h231 d_L_law_1261 ?_
            refine lv_aload_n hx hb d_L_law_1262 rfl (lv_at hl 3 rfl) ?_
            refine xr_cSW (n := 5) (hh := hh_L_asked) (As := [.ref x1, .int (xs (x4 + (1 : Int32)).toNatClampNeg), .int (xs (x4 + (2 : Int32)).toNatClampNeg), .int (xs (x4 + (3 : Int32)).toNatClampNeg), .ref x3]) (rest := []) ⟨hx, hb, hml, hown, hts⟩ hw hM232 hle_u_452 (xgood w_836) List.mem_cons_self (hts _ (xm w_0)) (hts _ (xm w_834)) (hts _ (xm w_835)) ⟨by decide, by decide, by decide +kernel⟩ ⟨Nat.le_of_ble_eq_true rfl, Nat.le_of_ble_eq_true rfl⟩ ⟨Nat.le_refl _, Nat.le_refl _⟩ rfl hl.1 rfl (Nat.le_of_ble_eq_true rfl) d_L_law_1263 (fun H locs hw => ?_)
            refine W.eq (g2 := F0 m 1266 ls [.int r_453]) rfl ?_
            refine lv_istore (lv' := [(5, .int r_453), (0, .ref x0), (1, .ref x1), (2, .ref x2), (3, .ref x3), (4, .int x4)]) hx hb d_L_law_1266 hl (by decide) rfl (fun ls hl => ?_)
            refine lv_aload_n hx hb d_L_law_1268 rfl (lv_at hl 3 rfl) ?_
            refine lv_aload_n hx hb d_L_law_1269 rfl (lv_at hl 1 rfl) ?_
            refine lv_iload hx hb d_L_law_1270 (lv_at hl 5 rfl) ?_
            refine lv_iconst (v := 1) hx hb d_L_law_1272 (by decide) ?_
            refine lv_iadd hx hb d_L_law_1273 ?_
            refine xr_sld hx hb hX hw h233 d_L_law_1274 ?_
            refine lv_aload_n hx hb d_L_law_1275 rfl (lv_at hl 1 rfl) ?_
            refine lv_iload hx hb d_L_law_1276 (lv_at hl 5 rfl) ?_
            refine lv_iconst (v := 2) hx hb d_L_law_1278 (by decide) ?_
            refine lv_iadd hx hb d_L_law_1279 ?_
            refine xr_sld hx hb hX hw h234 d_L_law_1280 ?_
            refine lv_aload_n hx hb d_L_law_1281 rfl (lv_at hl 1 rfl) ?_
            refine lv_iload hx hb d_L_law_1282 (lv_at hl 5 rfl) ?_
            refine lv_iconst (v := 3) hx hb d_L_law_1284 (by decide) ?_
            refine lv_iadd hx hb d_L_law_1285 ?_
            refine xr_sld hx hb hX hw h235 d_L_law_1286 ?_
            refine xr_cV (As := [.int (xs (x4 + (1 : Int32)).toNatClampNeg), .int (xs (x4 + (2 : Int32)).toNatClampNeg), .int (xs (x4 + (3 : Int32)).toNatClampNeg)]) (rest := []) ⟨hx, hb, hml, hown, hts⟩ hw hM236 hle_u_457 (fun _ _ => ⟨callB_of 3 hts (xgood w_1052) rfl rfl rfl (hts _ (xm w_8)) (hts _ (xm w_1049)) ⟨by decide, by decide, by decide +kernel⟩ ⟨Nat.le_of_ble_eq_true rfl, Nat.le_of_ble_eq_true rfl⟩, (hts _ (xm w_1050)), (hts _ (xm w_1051))⟩) (qc := (R_M, F_M, 14)) rfl rfl h237 rfl hl.1 rfl (Nat.le_of_ble_eq_true rfl) d_L_law_1287 (fun H locs hw => ?_)
            refine W.eq (g2 := F0 m 1290 ls [.int r_458]) rfl ?_
            refine lv_istore (lv' := [(6, .int r_458), (5, .int r_453), (0, .ref x0), (1, .ref x1), (2, .ref x2), (3, .ref x3), (4, .int x4)]) hx hb d_L_law_1290 hl (by decide) rfl (fun ls hl => ?_)
            refine lv_aload_n hx hb d_L_law_1292 rfl (lv_at hl 4 rfl) ?_
            refine xr_cV (As := []) (rest := []) ⟨hx, hb, hml, hown, hts⟩ hw hM238 hle_u_459 (fun _ _ => ⟨callB_of 0 hts (xgood w_915) rfl rfl rfl (hts _ (xm w_8)) (hts _ (xm w_912)) ⟨by decide, by decide, by decide +kernel⟩ ⟨Nat.le_of_ble_eq_true rfl, Nat.le_of_ble_eq_true rfl⟩, (hts _ (xm w_913)), (hts _ (xm w_914))⟩) (qc := (R_M, F_M, 14)) rfl rfl h239 rfl hl.1 rfl (Nat.le_of_ble_eq_true rfl) d_L_law_1293 (fun H locs hw => ?_)
            refine W.eq (g2 := F0 m 1296 ls [.int r_460]) rfl ?_
            refine lv_iload hx hb d_L_law_1296 (lv_at hl 1 rfl) ?_
            refine lv_icmp_eq (tgt := 1303) hx hb d_L_law_1298 (by decide) (fun _ => ?_) (fun c9 => absurd hc240 c9)
            refine lv_iload hx hb d_L_law_1303 (lv_at hl 1 rfl) ?_
            refine lv_if_ne (tgt := 1320) hx hb d_L_law_1305 (by decide) (fun _ => ?_) (fun c9 => absurd c9 hc241)
            exact w9 p e s m args below meth c A H locs ls F hX hw (lv_sub hl [2, 3, 4, 5, 6] rfl)
        · have k := k.2 hc240
          obtain ⟨rv, v9, hK, hle_u_459, w9⟩ := hE1301 u_459 k
          have hle_u_457 : x_le u_457 v9 := (hM238.1).tr hle_u_459
          have hle_u_452 : x_le u_452 v9 := (hM236.1).tr hle_u_457
          have hle_u : x_le u v9 := (hM232.1).tr hle_u_452
          refine ⟨rv, v9, hK, hle_u, ?_⟩
          intro p e s m args below meth c A H locs ls F hX hw hl
          obtain ⟨⟨hx, hb, hml, hown, hts⟩, hr, hlocks, hmn⟩ := id F
          refine lv_iload hx hb d_L_law_23 (lv_at hl 4 rfl) ?_
          refine lv_aload_n hx hb d_L_law_25 rfl (lv_at hl 0 rfl) ?_
          refine xr_slen hx hb hX hw d_L_law_26 ?_
          refine lv_iconst (v := 5) hx hb d_L_law_27 (by decide) ?_
          refine lv_isub hx hb d_L_law_28 ?_
          refine lv_icmp_gt (tgt := 1385) hx hb d_L_law_29 (by decide) (fun c9 => absurd c9 hc2) (fun _ => ?_)
          refine lv_aload_n hx hb d_L_law_32 rfl (lv_at hl 0 rfl) ?_
          refine lv_iload hx hb d_L_law_33 (lv_at hl 4 rfl) ?_
          refine xr_sld hx hb hX hw h3 d_L_law_35 ?_
          refine lv_bipush (v := 31) hx hb d_L_law_36 (by decide) ?_
          refine lv_iand hx hb d_L_law_38 ?_
          refine lv_tableIn (off := 1204) (tgt := 1243) hx hb d_L_law_39 (by rw [hc22]; decide) (by rw [hc22]; decide) (by rw [hc22]; rfl) (by decide) ?_
          refine lv_aload_n hx hb d_L_law_1243 rfl (lv_at hl 1 rfl) ?_
          refine lv_aload_n hx hb d_L_law_1244 rfl (lv_at hl 0 rfl) ?_
          refine lv_iload hx hb d_L_law_1245 (lv_at hl 4 rfl) ?_
          refine lv_iconst (v := 1) hx hb d_L_law_1247 (by decide) ?_
          refine lv_iadd hx hb d_L_law_1248 ?_
          refine xr_sld hx hb hX hw h229 d_L_law_1249 ?_
          refine lv_aload_n hx hb d_L_law_1250 rfl (lv_at hl 0 rfl) ?_
          refine lv_iload hx hb d_L_law_1251 (lv_at hl 4 rfl) ?_
          refine lv_iconst (v := 2) hx hb d_L_law_1253 (by decide) ?_
          refine lv_iadd hx hb d_L_law_1254 ?_
          refine xr_sld hx hb hX hw h230 d_L_law_1255 ?_
          refine lv_aload_n hx hb d_L_law_1256 rfl (lv_at hl 0 rfl) ?_
          refine lv_iload hx hb d_L_law_1257 (lv_at hl 4 rfl) ?_
          refine lv_iconst (v := 3) hx hb d_L_law_1259 (by decide) ?_
          refine lv_iadd hx hb d_L_law_1260 ?_
          refine xr_sld hx hb hX hw h231 d_L_law_1261 ?_
          refine lv_aload_n hx hb d_L_law_1262 rfl (lv_at hl 3 rfl) ?_
          refine xr_cSW (n := 5) (hh := hh_L_asked) (As := [.ref x1, .int (xs (x4 + (1 : Int32)).toNatClampNeg), .int (xs (x4 + (2 : Int32)).toNatClampNeg), .int (xs (x4 + (3 : Int32)).toNatClampNeg), .ref x3]) (rest := []) ⟨hx, hb, hml, hown, hts⟩ hw hM232 hle_u_452 (xgood w_836) List.mem_cons_self (hts _ (xm w_0)) (hts _ (xm w_834)) (hts _ (xm w_835)) ⟨by decide, by decide, by decide +kernel⟩ ⟨Nat.le_of_ble_eq_true rfl, Nat.le_of_ble_eq_true rfl⟩ ⟨Nat.le_refl _, Nat.le_refl _⟩ rfl hl.1 rfl (Nat.le_of_ble_eq_true rfl) d_L_law_1263 (fun H locs hw => ?_)
          refine W.eq (g2 := F0 m 1266 ls [.int r_453]) rfl ?_
          refine lv_istore (lv' := [(5, .int r_453), (0, .ref x0), (1, .ref x1), (2, .ref x2), (3, .ref x3), (4, .int x4)]) hx hb d_L_law_1266 hl (by decide) rfl (fun ls hl => ?_)
          refine lv_aload_n hx hb d_L_law_1268 rfl (lv_at hl 3 rfl) ?_
          refine lv_aload_n hx hb d_L_law_1269 rfl (lv_at hl 1 rfl) ?_
          refine lv_iload hx hb d_L_law_1270 (lv_at hl 5 rfl) ?_
          refine lv_iconst (v := 1) hx hb d_L_law_1272 (by decide) ?_
          refine lv_iadd hx hb d_L_law_1273 ?_
          refine xr_sld hx hb hX hw h233 d_L_law_1274 ?_
          refine lv_aload_n hx hb d_L_law_1275 rfl (lv_at hl 1 rfl) ?_
          refine lv_iload hx hb d_L_law_1276 (lv_at hl 5 rfl) ?_
          refine lv_iconst (v := 2) hx hb d_L_law_1278 (by decide) ?_
          refine lv_iadd hx hb d_L_law_1279 ?_
          refine xr_sld hx hb hX hw h234 d_L_law_1280 ?_
          refine lv_aload_n hx hb d_L_law_1281 rfl (lv_at hl 1 rfl) ?_
          refine lv_iload hx hb d_L_law_1282 (lv_at hl 5 rfl) ?_
          refine lv_iconst (v := 3) hx hb d_L_law_1284 (by decide) ?_
          refine lv_iadd hx hb d_L_law_1285 ?_
          refine xr_sld hx hb hX hw h235 d_L_law_1286 ?_
          refine xr_cV (As := [.int (xs (x4 + (1 : Int32)).toNatClampNeg), .int (xs (x4 + (2 : Int32)).toNatClampNeg), .int (xs (x4 + (3 : Int32)).toNatClampNeg)]) (rest := []) ⟨hx, hb, hml, hown, hts⟩ hw hM236 hle_u_457 (fun _ _ => ⟨callB_of 3 hts (xgood w_1052) rfl rfl rfl (hts _ (xm w_8)) (hts _ (xm w_1049)) ⟨by decide, by decide, by decide +kernel⟩ ⟨Nat.le_of_ble_eq_true rfl, Nat.le_of_ble_eq_true rfl⟩, (hts _ (xm w_1050)), (hts _ (xm w_1051))⟩) (qc := (R_M, F_M, 14)) rfl rfl h237 rfl hl.1 rfl (Nat.le_of_ble_eq_true rfl) d_L_law_1287 (fun H locs hw => ?_)
          refine W.eq (g2 := F0 m 1290 ls [.int r_458]) rfl ?_
          refine lv_istore (lv' := [(6, .int r_458), (5, .int r_453), (0, .ref x0), (1, .ref x1), (2, .ref x2), (3, .ref x3), (4, .int x4)]) hx hb d_L_law_1290 hl (by decide) rfl (fun ls hl => ?_)
          refine lv_aload_n hx hb d_L_law_1292 rfl (lv_at hl 4 rfl) ?_
          refine xr_cV (As := []) (rest := []) ⟨hx, hb, hml, hown, hts⟩ hw hM238 hle_u_459 (fun _ _ => ⟨callB_of 0 hts (xgood w_915) rfl rfl rfl (hts _ (xm w_8)) (hts _ (xm w_912)) ⟨by decide, by decide, by decide +kernel⟩ ⟨Nat.le_of_ble_eq_true rfl, Nat.le_of_ble_eq_true rfl⟩, (hts _ (xm w_913)), (hts _ (xm w_914))⟩) (qc := (R_M, F_M, 14)) rfl rfl h239 rfl hl.1 rfl (Nat.le_of_ble_eq_true rfl) d_L_law_1293 (fun H locs hw => ?_)
          refine W.eq (g2 := F0 m 1296 ls [.int r_460]) rfl ?_
          refine lv_iload hx hb d_L_law_1296 (lv_at hl 1 rfl) ?_
          refine lv_icmp_eq (tgt := 1303) hx hb d_L_law_1298 (by decide) (fun c9 => absurd c9 hc240) (fun _ => ?_)
          exact w9 p e s m args below meth c A H locs ls F hX hw (lv_sub hl [] rfl)
      by_cases hc23 : ((xs x4.toNatClampNeg) &&& (31 : Int32)) = 19
      · have k := k.2.2.2.2.2.2.2.2.2.2.2.2.2.2.2.2.2.2.2.1 hc23
        obtain ⟨h244, k⟩ := k
        obtain ⟨_, u_463, ⟨r_464, rfl, k⟩, hM245⟩ := c_L_questions l Z x1 (xs (x4 + (1 : Int32)).toNatClampNeg) x3 u _ k
        obtain ⟨h246, k⟩ := k
        obtain ⟨h248, k⟩ := k
        obtain ⟨_, u_466, ⟨r_467, rfl, k⟩, hM247⟩ := c_M_questions l Z x2 (xs (x4 + (1 : Int32)).toNatClampNeg) u_463 _ k
        obtain ⟨h250, k⟩ := k
        obtain ⟨_, u_468, ⟨r_469, rfl, k⟩, hM249⟩ := c_M_thrown l Z x2 u_466 _ k
        by_cases hc251 : r_469 = r_464
        · have k := k.1 hc251
          by_cases hc252 : r_464 = 0
          · have k := k.2 hc252
            obtain ⟨z_470, h253, k⟩ := k
            by_cases hc254 : (lg_cmp z_470 (r_467.toInt64)) = 0
            · have k := k.1 hc254
              obtain ⟨rv, v9, hK, hle_u_468, w9⟩ := t_L_law_J1376 l Z u0 sL xs x0 x1 x2 x3 x4 u_468 ih hE175 hE223 hE295 hE367 hE439 hE511 hE599 hE671 hE722 hE739 hE778 hE795 hE811 hE847 hE864 hE903 hE920 hE959 hE976 hE1027 hE1051 hE1090 hE1107 hE1146 hE1163 hE1214 hE1238 hE1301 hE1318 hE1357 hE1374 hE1385 k
              have hle_u_466 : x_le u_466 v9 := (hM249.1).tr hle_u_468
              have hle_u_463 : x_le u_463 v9 := (hM247.1).tr hle_u_466
              have hle_u : x_le u v9 := (hM245.1).tr hle_u_463
              refine ⟨rv, v9, hK, hle_u, ?_⟩
              intro p e s m args below meth c A H locs ls F hX hw hl
              obtain ⟨⟨hx, hb, hml, hown, hts⟩, hr, hlocks, hmn⟩ := id F
              refine lv_iload hx hb d_L_law_23 (lv_at hl 4 rfl) ?_
              refine lv_aload_n hx hb d_L_law_25 rfl (lv_at hl 0 rfl) ?_
              refine xr_slen hx hb hX hw d_L_law_26 ?_
              refine lv_iconst (v := 5) hx hb d_L_law_27 (by decide) ?_
              refine lv_isub hx hb d_L_law_28 ?_
              refine lv_icmp_gt (tgt := 1385) hx hb d_L_law_29 (by decide) (fun c9 => absurd c9 hc2) (fun _ => ?_)
              refine lv_aload_n hx hb d_L_law_32 rfl (lv_at hl 0 rfl) ?_
              refine lv_iload hx hb d_L_law_33 (lv_at hl 4 rfl) ?_
              refine xr_sld hx hb hX hw h3 d_L_law_35 ?_
              refine lv_bipush (v := 31) hx hb d_L_law_36 (by decide) ?_
              refine lv_iand hx hb d_L_law_38 ?_
              refine lv_tableIn (off := 1284) (tgt := 1323) hx hb d_L_law_39 (by rw [hc23]; decide) (by rw [hc23]; decide) (by rw [hc23]; rfl) (by decide) ?_
              refine lv_aload_n hx hb d_L_law_1323 rfl (lv_at hl 1 rfl) ?_
              refine lv_aload_n hx hb d_L_law_1324 rfl (lv_at hl 0 rfl) ?_
              refine lv_iload hx hb d_L_law_1325 (lv_at hl 4 rfl) ?_
              refine lv_iconst (v := 1) hx hb d_L_law_1327 (by decide) ?_
              refine lv_iadd hx hb d_L_law_1328 ?_
              refine xr_sld hx hb hX hw h244 d_L_law_1329 ?_
              refine lv_aload_n hx hb d_L_law_1330 rfl (lv_at hl 3 rfl) ?_
              refine xr_cSW (n := 3) (hh := hh_L_questions) (As := [.ref x1, .int (xs (x4 + (1 : Int32)).toNatClampNeg), .ref x3]) (rest := []) ⟨hx, hb, hml, hown, hts⟩ hw hM245 hle_u_463 (xgood w_852) List.mem_cons_self (hts _ (xm w_0)) (hts _ (xm w_850)) (hts _ (xm w_851)) ⟨by decide, by decide, by decide +kernel⟩ ⟨Nat.le_of_ble_eq_true rfl, Nat.le_of_ble_eq_true rfl⟩ ⟨Nat.le_refl _, Nat.le_refl _⟩ rfl hl.1 rfl (Nat.le_of_ble_eq_true rfl) d_L_law_1331 (fun H locs hw => ?_)
              refine W.eq (g2 := F0 m 1334 ls [.int r_464]) rfl ?_
              refine lv_istore (lv' := [(5, .int r_464), (0, .ref x0), (1, .ref x1), (2, .ref x2), (3, .ref x3), (4, .int x4)]) hx hb d_L_law_1334 hl (by decide) rfl (fun ls hl => ?_)
              refine lv_aload_n hx hb d_L_law_1336 rfl (lv_at hl 3 rfl) ?_
              refine lv_aload_n hx hb d_L_law_1337 rfl (lv_at hl 1 rfl) ?_
              refine lv_iload hx hb d_L_law_1338 (lv_at hl 5 rfl) ?_
              refine lv_iconst (v := 1) hx hb d_L_law_1340 (by decide) ?_
              refine lv_iadd hx hb d_L_law_1341 ?_
              refine xr_sld hx hb hX hw h246 d_L_law_1342 ?_
              refine xr_cV (As := [.int (xs (x4 + (1 : Int32)).toNatClampNeg)]) (rest := []) ⟨hx, hb, hml, hown, hts⟩ hw hM247 hle_u_466 (fun _ _ => ⟨callB_of 1 hts (xgood w_1000) rfl rfl rfl (hts _ (xm w_8)) (hts _ (xm w_997)) ⟨by decide, by decide, by decide +kernel⟩ ⟨Nat.le_of_ble_eq_true rfl, Nat.le_of_ble_eq_true rfl⟩, (hts _ (xm w_998)), (hts _ (xm w_999))⟩) (qc := (R_M, F_M, 14)) rfl rfl h248 rfl hl.1 rfl (Nat.le_of_ble_eq_true rfl) d_L_law_1343 (fun H locs hw => ?_)
              refine W.eq (g2 := F0 m 1346 ls [.int r_467]) rfl ?_
              refine lv_istore (lv' := [(6, .int r_467), (5, .int r_464), (0, .ref x0), (1, .ref x1), (2, .ref x2), (3, .ref x3), (4, .int x4)]) hx hb d_L_law_1346 hl (by decide) rfl (fun ls hl => ?_)
              refine lv_aload_n hx hb d_L_law_1348 rfl (lv_at hl 4 rfl) ?_
              refine xr_cV (As := []) (rest := []) ⟨hx, hb, hml, hown, hts⟩ hw hM249 hle_u_468 (fun _ _ => ⟨callB_of 0 hts (xgood w_915) rfl rfl rfl (hts _ (xm w_8)) (hts _ (xm w_912)) ⟨by decide, by decide, by decide +kernel⟩ ⟨Nat.le_of_ble_eq_true rfl, Nat.le_of_ble_eq_true rfl⟩, (hts _ (xm w_913)), (hts _ (xm w_914))⟩) (qc := (R_M, F_M, 14)) rfl rfl h250 rfl hl.1 rfl (Nat.le_of_ble_eq_true rfl) d_L_law_1349 (fun H locs hw => ?_)
              refine W.eq (g2 := F0 m 1352 ls [.int r_469]) rfl ?_
              refine lv_iload hx hb d_L_law_1352 (lv_at hl 1 rfl) ?_
              refine lv_icmp_eq (tgt := 1359) hx hb d_L_law_1354 (by decide) (fun _ => ?_) (fun c9 => absurd hc251 c9)
              refine lv_iload hx hb d_L_law_1359 (lv_at hl 1 rfl) ?_
              refine lv_if_ne (tgt := 1376) hx hb d_L_law_1361 (by decide) (fun c9 => absurd hc252 c9) (fun _ => ?_)
              refine lv_aload_n hx hb d_L_law_1364 rfl (lv_at hl 5 rfl) ?_
              refine lv_iconst (v := 0) hx hb d_L_law_1365 (by decide) ?_
              refine xr_lald hx hb hw h253 d_L_law_1366 ?_
              refine lv_iload hx hb d_L_law_1367 (lv_at hl 0 rfl) ?_
              refine lv_i2l hx hb d_L_law_1369 rfl ?_
              refine W.lcmp hx hb d_L_law_1370 ?_
              refine lv_if_eq (tgt := 1376) hx hb d_L_law_1371 (by decide) (fun _ => ?_) (fun c9 => absurd hc254 c9)
              exact w9 p e s m args below meth c A H locs ls F hX hw (lv_sub hl [2, 3, 4, 5, 6] rfl)
            · have k := k.2 hc254
              obtain ⟨rv, v9, hK, hle_u_468, w9⟩ := hE1374 u_468 k
              have hle_u_466 : x_le u_466 v9 := (hM249.1).tr hle_u_468
              have hle_u_463 : x_le u_463 v9 := (hM247.1).tr hle_u_466
              have hle_u : x_le u v9 := (hM245.1).tr hle_u_463
              refine ⟨rv, v9, hK, hle_u, ?_⟩
              intro p e s m args below meth c A H locs ls F hX hw hl
              obtain ⟨⟨hx, hb, hml, hown, hts⟩, hr, hlocks, hmn⟩ := id F
              refine lv_iload hx hb d_L_law_23 (lv_at hl 4 rfl) ?_
              refine lv_aload_n hx hb d_L_law_25 rfl (lv_at hl 0 rfl) ?_
              refine xr_slen hx hb hX hw d_L_law_26 ?_
              refine lv_iconst (v := 5) hx hb d_L_law_27 (by decide) ?_
              refine lv_isub hx hb d_L_law_28 ?_
              refine lv_icmp_gt (tgt := 1385) hx hb d_L_law_29 (by decide) (fun c9 => absurd c9 hc2) (fun _ => ?_)
              refine lv_aload_n hx hb d_L_law_32 rfl (lv_at hl 0 rfl) ?_
              refine lv_iload hx hb d_L_law_33 (lv_at hl 4 rfl) ?_
              refine xr_sld hx hb hX hw h3 d_L_law_35 ?_
              refine lv_bipush (v := 31) hx hb d_L_law_36 (by decide) ?_
              refine lv_iand hx hb d_L_law_38 ?_
              refine lv_tableIn (off := 1284) (tgt := 1323) hx hb d_L_law_39 (by rw [hc23]; decide) (by rw [hc23]; decide) (by rw [hc23]; rfl) (by decide) ?_
              refine lv_aload_n hx hb d_L_law_1323 rfl (lv_at hl 1 rfl) ?_
              refine lv_aload_n hx hb d_L_law_1324 rfl (lv_at hl 0 rfl) ?_
              refine lv_iload hx hb d_L_law_1325 (lv_at hl 4 rfl) ?_
              refine lv_iconst (v := 1) hx hb d_L_law_1327 (by decide) ?_
              refine lv_iadd hx hb d_L_law_1328 ?_
              refine xr_sld hx hb hX hw h244 d_L_law_1329 ?_
              refine lv_aload_n hx hb d_L_law_1330 rfl (lv_at hl 3 rfl) ?_
              refine xr_cSW (n := 3) (hh := hh_L_questions) (As := [.ref x1, .int (xs (x4 + (1 : Int32)).toNatClampNeg), .ref x3]) (rest := []) ⟨hx, hb, hml, hown, hts⟩ hw hM245 hle_u_463 (xgood w_852) List.mem_cons_self (hts _ (xm w_0)) (hts _ (xm w_850)) (hts _ (xm w_851)) ⟨by decide, by decide, by decide +kernel⟩ ⟨Nat.le_of_ble_eq_true rfl, Nat.le_of_ble_eq_true rfl⟩ ⟨Nat.le_refl _, Nat.le_refl _⟩ rfl hl.1 rfl (Nat.le_of_ble_eq_true rfl) d_L_law_1331 (fun H locs hw => ?_)
              refine W.eq (g2 := F0 m 1334 ls [.int r_464]) rfl ?_
              refine lv_istore (lv' := [(5, .int r_464), (0, .ref x0), (1, .ref x1), (2, .ref x2), (3, .ref x3), (4, .int x4)]) hx hb d_L_law_1334 hl (by decide) rfl (fun ls hl => ?_)
              refine lv_aload_n hx hb d_L_law_1336 rfl (lv_at hl 3 rfl) ?_
              refine lv_aload_n hx hb d_L_law_1337 rfl (lv_at hl 1 rfl) ?_
              refine lv_iload hx hb d_L_law_1338 (lv_at hl 5 rfl) ?_
              refine lv_iconst (v := 1) hx hb d_L_law_1340 (by decide) ?_
              refine lv_iadd hx hb d_L_law_1341 ?_
              refine xr_sld hx hb hX hw h246 d_L_law_1342 ?_
              refine xr_cV (As := [.int (xs (x4 + (1 : Int32)).toNatClampNeg)]) (rest := []) ⟨hx, hb, hml, hown, hts⟩ hw hM247 hle_u_466 (fun _ _ => ⟨callB_of 1 hts (xgood w_1000) rfl rfl rfl (hts _ (xm w_8)) (hts _ (xm w_997)) ⟨by decide, by decide, by decide +kernel⟩ ⟨Nat.le_of_ble_eq_true rfl, Nat.le_of_ble_eq_true rfl⟩, (hts _ (xm w_998)), (hts _ (xm w_999))⟩) (qc := (R_M, F_M, 14)) rfl rfl h248 rfl hl.1 rfl (Nat.le_of_ble_eq_true rfl) d_L_law_1343 (fun H locs hw => ?_)
              refine W.eq (g2 := F0 m 1346 ls [.int r_467]) rfl ?_
              refine lv_istore (lv' := [(6, .int r_467), (5, .int r_464), (0, .ref x0), (1, .ref x1), (2, .ref x2), (3, .ref x3), (4, .int x4)]) hx hb d_L_law_1346 hl (by decide) rfl (fun ls hl => ?_)
              refine lv_aload_n hx hb d_L_law_1348 rfl (lv_at hl 4 rfl) ?_
              refine xr_cV (As := []) (rest := []) ⟨hx, hb, hml, hown, hts⟩ hw hM249 hle_u_468 (fun _ _ => ⟨callB_of 0 hts (xgood w_915) rfl rfl rfl (hts _ (xm w_8)) (hts _ (xm w_912)) ⟨by decide, by decide, by decide +kernel⟩ ⟨Nat.le_of_ble_eq_true rfl, Nat.le_of_ble_eq_true rfl⟩, (hts _ (xm w_913)), (hts _ (xm w_914))⟩) (qc := (R_M, F_M, 14)) rfl rfl h250 rfl hl.1 rfl (Nat.le_of_ble_eq_true rfl) d_L_law_1349 (fun H locs hw => ?_)
              refine W.eq (g2 := F0 m 1352 ls [.int r_469]) rfl ?_
              refine lv_iload hx hb d_L_law_1352 (lv_at hl 1 rfl) ?_
              refine lv_icmp_eq (tgt := 1359) hx hb d_L_law_1354 (by decide) (fun _ => ?_) (fun c9 => absurd hc251 c9)
              refine lv_iload hx hb d_L_law_1359 (lv_at hl 1 rfl) ?_
              refine lv_if_ne (tgt := 1376) hx hb d_L_law_1361 (by decide) (fun c9 => absurd hc252 c9) (fun _ => ?_)
              refine lv_aload_n hx hb d_L_law_1364 rfl (lv_at hl 5 rfl) ?_
              refine lv_iconst (v := 0) hx hb d_L_law_1365 (by decide) ?_
              refine xr_lald hx hb hw h253 d_L_law_1366 ?_
              refine lv_iload hx hb d_L_law_1367 (lv_at hl 0 rfl) ?_
              refine lv_i2l hx hb d_L_law_1369 rfl ?_
              refine W.lcmp hx hb d_L_law_1370 ?_
              refine lv_if_eq (tgt := 1376) hx hb d_L_law_1371 (by decide) (fun c9 => absurd c9 hc254) (fun _ => ?_)
              exact w9 p e s m args below meth c A H locs ls F hX hw (lv_sub hl [] rfl)
          · have k := k.1 hc252
            obtain ⟨rv, v9, hK, hle_u_468, w9⟩ := t_L_law_J1376 l Z u0 sL xs x0 x1 x2 x3 x4 u_468 ih hE175 hE223 hE295 hE367 hE439 hE511 hE599 hE671 hE722 hE739 hE778 hE795 hE811 hE847 hE864 hE903 hE920 hE959 hE976 hE1027 hE1051 hE1090 hE1107 hE1146 hE1163 hE1214 hE1238 hE1301 hE1318 hE1357 hE1374 hE1385 k
            have hle_u_466 : x_le u_466 v9 := (hM249.1).tr hle_u_468
            have hle_u_463 : x_le u_463 v9 := (hM247.1).tr hle_u_466
            have hle_u : x_le u v9 := (hM245.1).tr hle_u_463
            refine ⟨rv, v9, hK, hle_u, ?_⟩
            intro p e s m args below meth c A H locs ls F hX hw hl
            obtain ⟨⟨hx, hb, hml, hown, hts⟩, hr, hlocks, hmn⟩ := id F
            refine lv_iload hx hb d_L_law_23 (lv_at hl 4 rfl) ?_
            refine lv_aload_n hx hb d_L_law_25 rfl (lv_at hl 0 rfl) ?_
            refine xr_slen hx hb hX hw d_L_law_26 ?_
            refine lv_iconst (v := 5) hx hb d_L_law_27 (by decide) ?_
            refine lv_isub hx hb d_L_law_28 ?_
            refine lv_icmp_gt (tgt := 1385) hx hb d_L_law_29 (by decide) (fun c9 => absurd c9 hc2) (fun _ => ?_)
            refine lv_aload_n hx hb d_L_law_32 rfl (lv_at hl 0 rfl) ?_
            refine lv_iload hx hb d_L_law_33 (lv_at hl 4 rfl) ?_
            refine xr_sld hx hb hX hw h3 d_L_law_35 ?_
            refine lv_bipush (v := 31) hx hb d_L_law_36 (by decide) ?_
            refine lv_iand hx hb d_L_law_38 ?_
            refine lv_tableIn (off := 1284) (tgt := 1323) hx hb d_L_law_39 (by rw [hc23]; decide) (by rw [hc23]; decide) (by rw [hc23]; rfl) (by decide) ?_
            refine lv_aload_n hx hb d_L_law_1323 rfl (lv_at hl 1 rfl) ?_
            refine lv_aload_n hx hb d_L_law_1324 rfl (lv_at hl 0 rfl) ?_
            refine lv_iload hx hb d_L_law_1325 (lv_at hl 4 rfl) ?_
            refine lv_iconst (v := 1) hx hb d_L_law_1327 (by decide) ?_
            refine lv_iadd hx hb d_L_law_1328 ?_
            refine xr_sld hx hb hX hw h244 d_L_law_1329 ?_
            refine lv_aload_n hx hb d_L_law_1330 rfl (lv_at hl 3 rfl) ?_
            refine xr_cSW (n := 3) (hh := hh_L_questions) (As := [.ref x1, .int (xs (x4 + (1 : Int32)).toNatClampNeg), .ref x3]) (rest := []) ⟨hx, hb, hml, hown, hts⟩ hw hM245 hle_u_463 (xgood w_852) List.mem_cons_self (hts _ (xm w_0)) (hts _ (xm w_850)) (hts _ (xm w_851)) ⟨by decide, by decide, by decide +kernel⟩ ⟨Nat.le_of_ble_eq_true rfl, Nat.le_of_ble_eq_true rfl⟩ ⟨Nat.le_refl _, Nat.le_refl _⟩ rfl hl.1 rfl (Nat.le_of_ble_eq_true rfl) d_L_law_1331 (fun H locs hw => ?_)
            refine W.eq (g2 := F0 m 1334 ls [.int r_464]) rfl ?_
            refine lv_istore (lv' := [(5, .int r_464), (0, .ref x0), (1, .ref x1), (2, .ref x2), (3, .ref x3), (4, .int x4)]) hx hb d_L_law_1334 hl (by decide) rfl (fun ls hl => ?_)
            refine lv_aload_n hx hb d_L_law_1336 rfl (lv_at hl 3 rfl) ?_
            refine lv_aload_n hx hb d_L_law_1337 rfl (lv_at hl 1 rfl) ?_
            refine lv_iload hx hb d_L_law_1338 (lv_at hl 5 rfl) ?_
            refine lv_iconst (v := 1) hx hb d_L_law_1340 (by decide) ?_
            refine lv_iadd hx hb d_L_law_1341 ?_
            refine xr_sld hx hb hX hw h246 d_L_law_1342 ?_
            refine xr_cV (As := [.int (xs (x4 + (1 : Int32)).toNatClampNeg)]) (rest := []) ⟨hx, hb, hml, hown, hts⟩ hw hM247 hle_u_466 (fun _ _ => ⟨callB_of 1 hts (xgood w_1000) rfl rfl rfl (hts _ (xm w_8)) (hts _ (xm w_997)) ⟨by decide, by decide, by decide +kernel⟩ ⟨Nat.le_of_ble_eq_true rfl, Nat.le_of_ble_eq_true rfl⟩, (hts _ (xm w_998)), (hts _ (xm w_999))⟩) (qc := (R_M, F_M, 14)) rfl rfl h248 rfl hl.1 rfl (Nat.le_of_ble_eq_true rfl) d_L_law_1343 (fun H locs hw => ?_)
            refine W.eq (g2 := F0 m 1346 ls [.int r_467]) rfl ?_
            refine lv_istore (lv' := [(6, .int r_467), (5, .int r_464), (0, .ref x0), (1, .ref x1), (2, .ref x2), (3, .ref x3), (4, .int x4)]) hx hb d_L_law_1346 hl (by decide) rfl (fun ls hl => ?_)
            refine lv_aload_n hx hb d_L_law_1348 rfl (lv_at hl 4 rfl) ?_
            refine xr_cV (As := []) (rest := []) ⟨hx, hb, hml, hown, hts⟩ hw hM249 hle_u_468 (fun _ _ => ⟨callB_of 0 hts (xgood w_915) rfl rfl rfl (hts _ (xm w_8)) (hts _ (xm w_912)) ⟨by decide, by decide, by decide +kernel⟩ ⟨Nat.le_of_ble_eq_true rfl, Nat.le_of_ble_eq_true rfl⟩, (hts _ (xm w_913)), (hts _ (xm w_914))⟩) (qc := (R_M, F_M, 14)) rfl rfl h250 rfl hl.1 rfl (Nat.le_of_ble_eq_true rfl) d_L_law_1349 (fun H locs hw => ?_)
            refine W.eq (g2 := F0 m 1352 ls [.int r_469]) rfl ?_
            refine lv_iload hx hb d_L_law_1352 (lv_at hl 1 rfl) ?_
            refine lv_icmp_eq (tgt := 1359) hx hb d_L_law_1354 (by decide) (fun _ => ?_) (fun c9 => absurd hc251 c9)
            refine lv_iload hx hb d_L_law_1359 (lv_at hl 1 rfl) ?_
            refine lv_if_ne (tgt := 1376) hx hb d_L_law_1361 (by decide) (fun _ => ?_) (fun c9 => absurd c9 hc252)
            exact w9 p e s m args below meth c A H locs ls F hX hw (lv_sub hl [2, 3, 4, 5, 6] rfl)
        · have k := k.2 hc251
          obtain ⟨rv, v9, hK, hle_u_468, w9⟩ := hE1357 u_468 k
          have hle_u_466 : x_le u_466 v9 := (hM249.1).tr hle_u_468
          have hle_u_463 : x_le u_463 v9 := (hM247.1).tr hle_u_466
          have hle_u : x_le u v9 := (hM245.1).tr hle_u_463
          refine ⟨rv, v9, hK, hle_u, ?_⟩
          intro p e s m args below meth c A H locs ls F hX hw hl
          obtain ⟨⟨hx, hb, hml, hown, hts⟩, hr, hlocks, hmn⟩ := id F
          refine lv_iload hx hb d_L_law_23 (lv_at hl 4 rfl) ?_
          refine lv_aload_n hx hb d_L_law_25 rfl (lv_at hl 0 rfl) ?_
          refine xr_slen hx hb hX hw d_L_law_26 ?_
          refine lv_iconst (v := 5) hx hb d_L_law_27 (by decide) ?_
          refine lv_isub hx hb d_L_law_28 ?_
          refine lv_icmp_gt (tgt := 1385) hx hb d_L_law_29 (by decide) (fun c9 => absurd c9 hc2) (fun _ => ?_)
          refine lv_aload_n hx hb d_L_law_32 rfl (lv_at hl 0 rfl) ?_
          refine lv_iload hx hb d_L_law_33 (lv_at hl 4 rfl) ?_
          refine xr_sld hx hb hX hw h3 d_L_law_35 ?_
          refine lv_bipush (v := 31) hx hb d_L_law_36 (by decide) ?_
          refine lv_iand hx hb d_L_law_38 ?_
          refine lv_tableIn (off := 1284) (tgt := 1323) hx hb d_L_law_39 (by rw [hc23]; decide) (by rw [hc23]; decide) (by rw [hc23]; rfl) (by decide) ?_
          refine lv_aload_n hx hb d_L_law_1323 rfl (lv_at hl 1 rfl) ?_
          refine lv_aload_n hx hb d_L_law_1324 rfl (lv_at hl 0 rfl) ?_
          refine lv_iload hx hb d_L_law_1325 (lv_at hl 4 rfl) ?_
          refine lv_iconst (v := 1) hx hb d_L_law_1327 (by decide) ?_
          refine lv_iadd hx hb d_L_law_1328 ?_
          refine xr_sld hx hb hX hw h244 d_L_law_1329 ?_
          refine lv_aload_n hx hb d_L_law_1330 rfl (lv_at hl 3 rfl) ?_
          refine xr_cSW (n := 3) (hh := hh_L_questions) (As := [.ref x1, .int (xs (x4 + (1 : Int32)).toNatClampNeg), .ref x3]) (rest := []) ⟨hx, hb, hml, hown, hts⟩ hw hM245 hle_u_463 (xgood w_852) List.mem_cons_self (hts _ (xm w_0)) (hts _ (xm w_850)) (hts _ (xm w_851)) ⟨by decide, by decide, by decide +kernel⟩ ⟨Nat.le_of_ble_eq_true rfl, Nat.le_of_ble_eq_true rfl⟩ ⟨Nat.le_refl _, Nat.le_refl _⟩ rfl hl.1 rfl (Nat.le_of_ble_eq_true rfl) d_L_law_1331 (fun H locs hw => ?_)
          refine W.eq (g2 := F0 m 1334 ls [.int r_464]) rfl ?_
          refine lv_istore (lv' := [(5, .int r_464), (0, .ref x0), (1, .ref x1), (2, .ref x2), (3, .ref x3), (4, .int x4)]) hx hb d_L_law_1334 hl (by decide) rfl (fun ls hl => ?_)
          refine lv_aload_n hx hb d_L_law_1336 rfl (lv_at hl 3 rfl) ?_
          refine lv_aload_n hx hb d_L_law_1337 rfl (lv_at hl 1 rfl) ?_
          refine lv_iload hx hb d_L_law_1338 (lv_at hl 5 rfl) ?_
          refine lv_iconst (v := 1) hx hb d_L_law_1340 (by decide) ?_
          refine lv_iadd hx hb d_L_law_1341 ?_
          refine xr_sld hx hb hX hw h246 d_L_law_1342 ?_
          refine xr_cV (As := [.int (xs (x4 + (1 : Int32)).toNatClampNeg)]) (rest := []) ⟨hx, hb, hml, hown, hts⟩ hw hM247 hle_u_466 (fun _ _ => ⟨callB_of 1 hts (xgood w_1000) rfl rfl rfl (hts _ (xm w_8)) (hts _ (xm w_997)) ⟨by decide, by decide, by decide +kernel⟩ ⟨Nat.le_of_ble_eq_true rfl, Nat.le_of_ble_eq_true rfl⟩, (hts _ (xm w_998)), (hts _ (xm w_999))⟩) (qc := (R_M, F_M, 14)) rfl rfl h248 rfl hl.1 rfl (Nat.le_of_ble_eq_true rfl) d_L_law_1343 (fun H locs hw => ?_)
          refine W.eq (g2 := F0 m 1346 ls [.int r_467]) rfl ?_
          refine lv_istore (lv' := [(6, .int r_467), (5, .int r_464), (0, .ref x0), (1, .ref x1), (2, .ref x2), (3, .ref x3), (4, .int x4)]) hx hb d_L_law_1346 hl (by decide) rfl (fun ls hl => ?_)
          refine lv_aload_n hx hb d_L_law_1348 rfl (lv_at hl 4 rfl) ?_
          refine xr_cV (As := []) (rest := []) ⟨hx, hb, hml, hown, hts⟩ hw hM249 hle_u_468 (fun _ _ => ⟨callB_of 0 hts (xgood w_915) rfl rfl rfl (hts _ (xm w_8)) (hts _ (xm w_912)) ⟨by decide, by decide, by decide +kernel⟩ ⟨Nat.le_of_ble_eq_true rfl, Nat.le_of_ble_eq_true rfl⟩, (hts _ (xm w_913)), (hts _ (xm w_914))⟩) (qc := (R_M, F_M, 14)) rfl rfl h250 rfl hl.1 rfl (Nat.le_of_ble_eq_true rfl) d_L_law_1349 (fun H locs hw => ?_)
          refine W.eq (g2 := F0 m 1352 ls [.int r_469]) rfl ?_
          refine lv_iload hx hb d_L_law_1352 (lv_at hl 1 rfl) ?_
          refine lv_icmp_eq (tgt := 1359) hx hb d_L_law_1354 (by decide) (fun c9 => absurd c9 hc251) (fun _ => ?_)
          exact w9 p e s m args below meth c A H locs ls F hX hw (lv_sub hl [] rfl)
      have k := k.2.2.2.2.2.2.2.2.2.2.2.2.2.2.2.2.2.2.2.2 hc4 hc5 hc6 hc7 hc8 hc9 hc10 hc11 hc12 hc13 hc14 hc15 hc16 hc17 hc18 hc19 hc20 hc21 hc22 hc23
      have e255 := lv_neT hc4 (a := 0) (by decide)
      have e256 := lv_neT hc5 (a := 1) (by decide)
      have e257 := lv_neT hc6 (a := 2) (by decide)
      have e258 := lv_neT hc7 (a := 3) (by decide)
      have e259 := lv_neT hc8 (a := 4) (by decide)
      have e260 := lv_neT hc9 (a := 5) (by decide)
      have e261 := lv_neT hc10 (a := 6) (by decide)
      have e262 := lv_neT hc11 (a := 7) (by decide)
      have e263 := lv_neT hc12 (a := 8) (by decide)
      have e264 := lv_neT hc13 (a := 9) (by decide)
      have e265 := lv_neT hc14 (a := 10) (by decide)
      have e266 := lv_neT hc15 (a := 11) (by decide)
      have e267 := lv_neT hc16 (a := 12) (by decide)
      have e268 := lv_neT hc17 (a := 13) (by decide)
      have e269 := lv_neT hc18 (a := 14) (by decide)
      have e270 := lv_neT hc19 (a := 15) (by decide)
      have e271 := lv_neT hc20 (a := 16) (by decide)
      have e272 := lv_neT hc21 (a := 17) (by decide)
      have e273 := lv_neT hc22 (a := 18) (by decide)
      have e274 := lv_neT hc23 (a := 19) (by decide)
      obtain ⟨rv, v9, hK, hle_u, w9⟩ := t_L_law_J1379 l Z u0 sL xs x0 x1 x2 x3 x4 u ih hE175 hE223 hE295 hE367 hE439 hE511 hE599 hE671 hE722 hE739 hE778 hE795 hE811 hE847 hE864 hE903 hE920 hE959 hE976 hE1027 hE1051 hE1090 hE1107 hE1146 hE1163 hE1214 hE1238 hE1301 hE1318 hE1357 hE1374 hE1385 k
      refine ⟨rv, v9, hK, hle_u, ?_⟩
      intro p e s m args below meth c A H locs ls F hX hw hl
      obtain ⟨⟨hx, hb, hml, hown, hts⟩, hr, hlocks, hmn⟩ := id F
      refine lv_iload hx hb d_L_law_23 (lv_at hl 4 rfl) ?_
      refine lv_aload_n hx hb d_L_law_25 rfl (lv_at hl 0 rfl) ?_
      refine xr_slen hx hb hX hw d_L_law_26 ?_
      refine lv_iconst (v := 5) hx hb d_L_law_27 (by decide) ?_
      refine lv_isub hx hb d_L_law_28 ?_
      refine lv_icmp_gt (tgt := 1385) hx hb d_L_law_29 (by decide) (fun c9 => absurd c9 hc2) (fun _ => ?_)
      refine lv_aload_n hx hb d_L_law_32 rfl (lv_at hl 0 rfl) ?_
      refine lv_iload hx hb d_L_law_33 (lv_at hl 4 rfl) ?_
      refine xr_sld hx hb hX hw h3 d_L_law_35 ?_
      refine lv_bipush (v := 31) hx hb d_L_law_36 (by decide) ?_
      refine lv_iand hx hb d_L_law_38 ?_
      refine lv_tableOut (tgt := 1379) hx hb d_L_law_39 (by omega) (by decide) ?_
      exact w9 p e s m args below meth c A H locs ls F hX hw (lv_sub hl [0, 1, 2, 3, 4] rfl)
set_option maxRecDepth 100000 in
set_option maxHeartbeats 4000000 in
theorem c_L_law (l : Launch) (Z : XZ) (sL : Nat) (xs : Nat → Int32) (x0 : Nat) (u : PS) (K : Int32 → PS → Prop) (k : p_L_law sL xs x0 u K) : XNl x0 sL xs l Z i_L_law u (kI K) u 0 [(0, .ref x0)] [] := by
  unfold p_L_law at k
  obtain ⟨a_253, u_254, h1, k⟩ := k
  obtain ⟨_, u_255, ⟨rfl, k⟩, hM2⟩ := c_H_init l Z a_253 u_254 _ k
  obtain ⟨a_256, u_257, h3, k⟩ := k
  obtain ⟨_, u_258, ⟨rfl, k⟩, hM4⟩ := c_M_init l Z a_256 u_257 _ k
  obtain ⟨a_259, u_260, h5, k⟩ := k
  obtain ⟨n6, k⟩ := k
  have hx8 : ∀ (v7 : PS), (xZ (0 : Int32) ∧ K (0 : Int32) v7) → XNl x0 sL xs l Z i_L_law u (kI K) v7 175 [] [] := by
    intro v7 k
    obtain ⟨hz9, k⟩ := k
    have hle_v7 : x_le v7 v7 := x_le.rf v7
    refine ⟨some (.int 0), v7, ⟨(0 : Int32), rfl, k⟩, hle_v7, ?_⟩
    intro p e s m args below meth c A H locs ls F hX hw hl
    obtain ⟨⟨hx, hb, hml, hown, hts⟩, hr, hlocks, hmn⟩ := id F
    refine lv_iconst (v := 0) hx hb d_L_law_175 (by decide) ?_
    exact xr_zret F rfl hz9 hw d_L_law_176
  have hx10 : ∀ (v9 : PS), (xZ (0 : Int32) ∧ K (0 : Int32) v9) → XNl x0 sL xs l Z i_L_law u (kI K) v9 223 [] [] := by
    intro v9 k
    obtain ⟨hz9, k⟩ := k
    have hle_v9 : x_le v9 v9 := x_le.rf v9
    refine ⟨some (.int 0), v9, ⟨(0 : Int32), rfl, k⟩, hle_v9, ?_⟩
    intro p e s m args below meth c A H locs ls F hX hw hl
    obtain ⟨⟨hx, hb, hml, hown, hts⟩, hr, hlocks, hmn⟩ := id F
    refine lv_iconst (v := 0) hx hb d_L_law_223 (by decide) ?_
    exact xr_zret F rfl hz9 hw d_L_law_224
  have hx12 : ∀ (v11 : PS), (xZ (0 : Int32) ∧ K (0 : Int32) v11) → XNl x0 sL xs l Z i_L_law u (kI K) v11 295 [] [] := by
    intro v11 k
    obtain ⟨hz9, k⟩ := k
    have hle_v11 : x_le v11 v11 := x_le.rf v11
    refine ⟨some (.int 0), v11, ⟨(0 : Int32), rfl, k⟩, hle_v11, ?_⟩
    intro p e s m args below meth c A H locs ls F hX hw hl
    obtain ⟨⟨hx, hb, hml, hown, hts⟩, hr, hlocks, hmn⟩ := id F
    refine lv_iconst (v := 0) hx hb d_L_law_295 (by decide) ?_
    exact xr_zret F rfl hz9 hw d_L_law_296
  have hx14 : ∀ (v13 : PS), (xZ (0 : Int32) ∧ K (0 : Int32) v13) → XNl x0 sL xs l Z i_L_law u (kI K) v13 367 [] [] := by
    intro v13 k
    obtain ⟨hz9, k⟩ := k
    have hle_v13 : x_le v13 v13 := x_le.rf v13
    refine ⟨some (.int 0), v13, ⟨(0 : Int32), rfl, k⟩, hle_v13, ?_⟩
    intro p e s m args below meth c A H locs ls F hX hw hl
    obtain ⟨⟨hx, hb, hml, hown, hts⟩, hr, hlocks, hmn⟩ := id F
    refine lv_iconst (v := 0) hx hb d_L_law_367 (by decide) ?_
    exact xr_zret F rfl hz9 hw d_L_law_368
  have hx16 : ∀ (v15 : PS), (xZ (0 : Int32) ∧ K (0 : Int32) v15) → XNl x0 sL xs l Z i_L_law u (kI K) v15 439 [] [] := by
    intro v15 k
    obtain ⟨hz9, k⟩ := k
    have hle_v15 : x_le v15 v15 := x_le.rf v15
    refine ⟨some (.int 0), v15, ⟨(0 : Int32), rfl, k⟩, hle_v15, ?_⟩
    intro p e s m args below meth c A H locs ls F hX hw hl
    obtain ⟨⟨hx, hb, hml, hown, hts⟩, hr, hlocks, hmn⟩ := id F
    refine lv_iconst (v := 0) hx hb d_L_law_439 (by decide) ?_
    exact xr_zret F rfl hz9 hw d_L_law_440
  have hx18 : ∀ (v17 : PS), (xZ (0 : Int32) ∧ K (0 : Int32) v17) → XNl x0 sL xs l Z i_L_law u (kI K) v17 511 [] [] := by
    intro v17 k
    obtain ⟨hz9, k⟩ := k
    have hle_v17 : x_le v17 v17 := x_le.rf v17
    refine ⟨some (.int 0), v17, ⟨(0 : Int32), rfl, k⟩, hle_v17, ?_⟩
    intro p e s m args below meth c A H locs ls F hX hw hl
    obtain ⟨⟨hx, hb, hml, hown, hts⟩, hr, hlocks, hmn⟩ := id F
    refine lv_iconst (v := 0) hx hb d_L_law_511 (by decide) ?_
    exact xr_zret F rfl hz9 hw d_L_law_512
  have hx20 : ∀ (v19 : PS), (xZ (0 : Int32) ∧ K (0 : Int32) v19) → XNl x0 sL xs l Z i_L_law u (kI K) v19 599 [] [] := by
    intro v19 k
    obtain ⟨hz9, k⟩ := k
    have hle_v19 : x_le v19 v19 := x_le.rf v19
    refine ⟨some (.int 0), v19, ⟨(0 : Int32), rfl, k⟩, hle_v19, ?_⟩
    intro p e s m args below meth c A H locs ls F hX hw hl
    obtain ⟨⟨hx, hb, hml, hown, hts⟩, hr, hlocks, hmn⟩ := id F
    refine lv_iconst (v := 0) hx hb d_L_law_599 (by decide) ?_
    exact xr_zret F rfl hz9 hw d_L_law_600
  have hx22 : ∀ (v21 : PS), (xZ (0 : Int32) ∧ K (0 : Int32) v21) → XNl x0 sL xs l Z i_L_law u (kI K) v21 671 [] [] := by
    intro v21 k
    obtain ⟨hz9, k⟩ := k
    have hle_v21 : x_le v21 v21 := x_le.rf v21
    refine ⟨some (.int 0), v21, ⟨(0 : Int32), rfl, k⟩, hle_v21, ?_⟩
    intro p e s m args below meth c A H locs ls F hX hw hl
    obtain ⟨⟨hx, hb, hml, hown, hts⟩, hr, hlocks, hmn⟩ := id F
    refine lv_iconst (v := 0) hx hb d_L_law_671 (by decide) ?_
    exact xr_zret F rfl hz9 hw d_L_law_672
  have hx24 : ∀ (v23 : PS), (xZ (0 : Int32) ∧ K (0 : Int32) v23) → XNl x0 sL xs l Z i_L_law u (kI K) v23 722 [] [] := by
    intro v23 k
    obtain ⟨hz9, k⟩ := k
    have hle_v23 : x_le v23 v23 := x_le.rf v23
    refine ⟨some (.int 0), v23, ⟨(0 : Int32), rfl, k⟩, hle_v23, ?_⟩
    intro p e s m args below meth c A H locs ls F hX hw hl
    obtain ⟨⟨hx, hb, hml, hown, hts⟩, hr, hlocks, hmn⟩ := id F
    refine lv_iconst (v := 0) hx hb d_L_law_722 (by decide) ?_
    exact xr_zret F rfl hz9 hw d_L_law_723
  have hx26 : ∀ (v25 : PS), (xZ (0 : Int32) ∧ K (0 : Int32) v25) → XNl x0 sL xs l Z i_L_law u (kI K) v25 739 [] [] := by
    intro v25 k
    obtain ⟨hz9, k⟩ := k
    have hle_v25 : x_le v25 v25 := x_le.rf v25
    refine ⟨some (.int 0), v25, ⟨(0 : Int32), rfl, k⟩, hle_v25, ?_⟩
    intro p e s m args below meth c A H locs ls F hX hw hl
    obtain ⟨⟨hx, hb, hml, hown, hts⟩, hr, hlocks, hmn⟩ := id F
    refine lv_iconst (v := 0) hx hb d_L_law_739 (by decide) ?_
    exact xr_zret F rfl hz9 hw d_L_law_740
  have hx28 : ∀ (v27 : PS), (xZ (0 : Int32) ∧ K (0 : Int32) v27) → XNl x0 sL xs l Z i_L_law u (kI K) v27 778 [] [] := by
    intro v27 k
    obtain ⟨hz9, k⟩ := k
    have hle_v27 : x_le v27 v27 := x_le.rf v27
    refine ⟨some (.int 0), v27, ⟨(0 : Int32), rfl, k⟩, hle_v27, ?_⟩
    intro p e s m args below meth c A H locs ls F hX hw hl
    obtain ⟨⟨hx, hb, hml, hown, hts⟩, hr, hlocks, hmn⟩ := id F
    refine lv_iconst (v := 0) hx hb d_L_law_778 (by decide) ?_
    exact xr_zret F rfl hz9 hw d_L_law_779
  have hx30 : ∀ (v29 : PS), (xZ (0 : Int32) ∧ K (0 : Int32) v29) → XNl x0 sL xs l Z i_L_law u (kI K) v29 795 [] [] := by
    intro v29 k
    obtain ⟨hz9, k⟩ := k
    have hle_v29 : x_le v29 v29 := x_le.rf v29
    refine ⟨some (.int 0), v29, ⟨(0 : Int32), rfl, k⟩, hle_v29, ?_⟩
    intro p e s m args below meth c A H locs ls F hX hw hl
    obtain ⟨⟨hx, hb, hml, hown, hts⟩, hr, hlocks, hmn⟩ := id F
    refine lv_iconst (v := 0) hx hb d_L_law_795 (by decide) ?_
    exact xr_zret F rfl hz9 hw d_L_law_796
  have hx32 : ∀ (v31 : PS), (xZ (0 : Int32) ∧ K (0 : Int32) v31) → XNl x0 sL xs l Z i_L_law u (kI K) v31 811 [] [] := by
    intro v31 k
    obtain ⟨hz9, k⟩ := k
    have hle_v31 : x_le v31 v31 := x_le.rf v31
    refine ⟨some (.int 0), v31, ⟨(0 : Int32), rfl, k⟩, hle_v31, ?_⟩
    intro p e s m args below meth c A H locs ls F hX hw hl
    obtain ⟨⟨hx, hb, hml, hown, hts⟩, hr, hlocks, hmn⟩ := id F
    refine lv_iconst (v := 0) hx hb d_L_law_811 (by decide) ?_
    exact xr_zret F rfl hz9 hw d_L_law_812
  have hx34 : ∀ (v33 : PS), (xZ (0 : Int32) ∧ K (0 : Int32) v33) → XNl x0 sL xs l Z i_L_law u (kI K) v33 847 [] [] := by
    intro v33 k
    obtain ⟨hz9, k⟩ := k
    have hle_v33 : x_le v33 v33 := x_le.rf v33
    refine ⟨some (.int 0), v33, ⟨(0 : Int32), rfl, k⟩, hle_v33, ?_⟩
    intro p e s m args below meth c A H locs ls F hX hw hl
    obtain ⟨⟨hx, hb, hml, hown, hts⟩, hr, hlocks, hmn⟩ := id F
    refine lv_iconst (v := 0) hx hb d_L_law_847 (by decide) ?_
    exact xr_zret F rfl hz9 hw d_L_law_848
  have hx36 : ∀ (v35 : PS), (xZ (0 : Int32) ∧ K (0 : Int32) v35) → XNl x0 sL xs l Z i_L_law u (kI K) v35 864 [] [] := by
    intro v35 k
    obtain ⟨hz9, k⟩ := k
    have hle_v35 : x_le v35 v35 := x_le.rf v35
    refine ⟨some (.int 0), v35, ⟨(0 : Int32), rfl, k⟩, hle_v35, ?_⟩
    intro p e s m args below meth c A H locs ls F hX hw hl
    obtain ⟨⟨hx, hb, hml, hown, hts⟩, hr, hlocks, hmn⟩ := id F
    refine lv_iconst (v := 0) hx hb d_L_law_864 (by decide) ?_
    exact xr_zret F rfl hz9 hw d_L_law_865
  have hx38 : ∀ (v37 : PS), (xZ (0 : Int32) ∧ K (0 : Int32) v37) → XNl x0 sL xs l Z i_L_law u (kI K) v37 903 [] [] := by
    intro v37 k
    obtain ⟨hz9, k⟩ := k
    have hle_v37 : x_le v37 v37 := x_le.rf v37
    refine ⟨some (.int 0), v37, ⟨(0 : Int32), rfl, k⟩, hle_v37, ?_⟩
    intro p e s m args below meth c A H locs ls F hX hw hl
    obtain ⟨⟨hx, hb, hml, hown, hts⟩, hr, hlocks, hmn⟩ := id F
    refine lv_iconst (v := 0) hx hb d_L_law_903 (by decide) ?_
    exact xr_zret F rfl hz9 hw d_L_law_904
  have hx40 : ∀ (v39 : PS), (xZ (0 : Int32) ∧ K (0 : Int32) v39) → XNl x0 sL xs l Z i_L_law u (kI K) v39 920 [] [] := by
    intro v39 k
    obtain ⟨hz9, k⟩ := k
    have hle_v39 : x_le v39 v39 := x_le.rf v39
    refine ⟨some (.int 0), v39, ⟨(0 : Int32), rfl, k⟩, hle_v39, ?_⟩
    intro p e s m args below meth c A H locs ls F hX hw hl
    obtain ⟨⟨hx, hb, hml, hown, hts⟩, hr, hlocks, hmn⟩ := id F
    refine lv_iconst (v := 0) hx hb d_L_law_920 (by decide) ?_
    exact xr_zret F rfl hz9 hw d_L_law_921
  have hx42 : ∀ (v41 : PS), (xZ (0 : Int32) ∧ K (0 : Int32) v41) → XNl x0 sL xs l Z i_L_law u (kI K) v41 959 [] [] := by
    intro v41 k
    obtain ⟨hz9, k⟩ := k
    have hle_v41 : x_le v41 v41 := x_le.rf v41
    refine ⟨some (.int 0), v41, ⟨(0 : Int32), rfl, k⟩, hle_v41, ?_⟩
    intro p e s m args below meth c A H locs ls F hX hw hl
    obtain ⟨⟨hx, hb, hml, hown, hts⟩, hr, hlocks, hmn⟩ := id F
    refine lv_iconst (v := 0) hx hb d_L_law_959 (by decide) ?_
    exact xr_zret F rfl hz9 hw d_L_law_960
  have hx44 : ∀ (v43 : PS), (xZ (0 : Int32) ∧ K (0 : Int32) v43) → XNl x0 sL xs l Z i_L_law u (kI K) v43 976 [] [] := by
    intro v43 k
    obtain ⟨hz9, k⟩ := k
    have hle_v43 : x_le v43 v43 := x_le.rf v43
    refine ⟨some (.int 0), v43, ⟨(0 : Int32), rfl, k⟩, hle_v43, ?_⟩
    intro p e s m args below meth c A H locs ls F hX hw hl
    obtain ⟨⟨hx, hb, hml, hown, hts⟩, hr, hlocks, hmn⟩ := id F
    refine lv_iconst (v := 0) hx hb d_L_law_976 (by decide) ?_
    exact xr_zret F rfl hz9 hw d_L_law_977
  have hx46 : ∀ (v45 : PS), (xZ (0 : Int32) ∧ K (0 : Int32) v45) → XNl x0 sL xs l Z i_L_law u (kI K) v45 1027 [] [] := by
    intro v45 k
    obtain ⟨hz9, k⟩ := k
    have hle_v45 : x_le v45 v45 := x_le.rf v45
    refine ⟨some (.int 0), v45, ⟨(0 : Int32), rfl, k⟩, hle_v45, ?_⟩
    intro p e s m args below meth c A H locs ls F hX hw hl
    obtain ⟨⟨hx, hb, hml, hown, hts⟩, hr, hlocks, hmn⟩ := id F
    refine lv_iconst (v := 0) hx hb d_L_law_1027 (by decide) ?_
    exact xr_zret F rfl hz9 hw d_L_law_1028
  have hx48 : ∀ (v47 : PS), (xZ (0 : Int32) ∧ K (0 : Int32) v47) → XNl x0 sL xs l Z i_L_law u (kI K) v47 1051 [] [] := by
    intro v47 k
    obtain ⟨hz9, k⟩ := k
    have hle_v47 : x_le v47 v47 := x_le.rf v47
    refine ⟨some (.int 0), v47, ⟨(0 : Int32), rfl, k⟩, hle_v47, ?_⟩
    intro p e s m args below meth c A H locs ls F hX hw hl
    obtain ⟨⟨hx, hb, hml, hown, hts⟩, hr, hlocks, hmn⟩ := id F
    refine lv_iconst (v := 0) hx hb d_L_law_1051 (by decide) ?_
    exact xr_zret F rfl hz9 hw d_L_law_1052
  have hx50 : ∀ (v49 : PS), (xZ (0 : Int32) ∧ K (0 : Int32) v49) → XNl x0 sL xs l Z i_L_law u (kI K) v49 1090 [] [] := by
    intro v49 k
    obtain ⟨hz9, k⟩ := k
    have hle_v49 : x_le v49 v49 := x_le.rf v49
    refine ⟨some (.int 0), v49, ⟨(0 : Int32), rfl, k⟩, hle_v49, ?_⟩
    intro p e s m args below meth c A H locs ls F hX hw hl
    obtain ⟨⟨hx, hb, hml, hown, hts⟩, hr, hlocks, hmn⟩ := id F
    refine lv_iconst (v := 0) hx hb d_L_law_1090 (by decide) ?_
    exact xr_zret F rfl hz9 hw d_L_law_1091
  have hx52 : ∀ (v51 : PS), (xZ (0 : Int32) ∧ K (0 : Int32) v51) → XNl x0 sL xs l Z i_L_law u (kI K) v51 1107 [] [] := by
    intro v51 k
    obtain ⟨hz9, k⟩ := k
    have hle_v51 : x_le v51 v51 := x_le.rf v51
    refine ⟨some (.int 0), v51, ⟨(0 : Int32), rfl, k⟩, hle_v51, ?_⟩
    intro p e s m args below meth c A H locs ls F hX hw hl
    obtain ⟨⟨hx, hb, hml, hown, hts⟩, hr, hlocks, hmn⟩ := id F
    refine lv_iconst (v := 0) hx hb d_L_law_1107 (by decide) ?_
    exact xr_zret F rfl hz9 hw d_L_law_1108
  have hx54 : ∀ (v53 : PS), (xZ (0 : Int32) ∧ K (0 : Int32) v53) → XNl x0 sL xs l Z i_L_law u (kI K) v53 1146 [] [] := by
    intro v53 k
    obtain ⟨hz9, k⟩ := k
    have hle_v53 : x_le v53 v53 := x_le.rf v53
    refine ⟨some (.int 0), v53, ⟨(0 : Int32), rfl, k⟩, hle_v53, ?_⟩
    intro p e s m args below meth c A H locs ls F hX hw hl
    obtain ⟨⟨hx, hb, hml, hown, hts⟩, hr, hlocks, hmn⟩ := id F
    refine lv_iconst (v := 0) hx hb d_L_law_1146 (by decide) ?_
    exact xr_zret F rfl hz9 hw d_L_law_1147
  have hx56 : ∀ (v55 : PS), (xZ (0 : Int32) ∧ K (0 : Int32) v55) → XNl x0 sL xs l Z i_L_law u (kI K) v55 1163 [] [] := by
    intro v55 k
    obtain ⟨hz9, k⟩ := k
    have hle_v55 : x_le v55 v55 := x_le.rf v55
    refine ⟨some (.int 0), v55, ⟨(0 : Int32), rfl, k⟩, hle_v55, ?_⟩
    intro p e s m args below meth c A H locs ls F hX hw hl
    obtain ⟨⟨hx, hb, hml, hown, hts⟩, hr, hlocks, hmn⟩ := id F
    refine lv_iconst (v := 0) hx hb d_L_law_1163 (by decide) ?_
    exact xr_zret F rfl hz9 hw d_L_law_1164
  have hx58 : ∀ (v57 : PS), (xZ (0 : Int32) ∧ K (0 : Int32) v57) → XNl x0 sL xs l Z i_L_law u (kI K) v57 1214 [] [] := by
    intro v57 k
    obtain ⟨hz9, k⟩ := k
    have hle_v57 : x_le v57 v57 := x_le.rf v57
    refine ⟨some (.int 0), v57, ⟨(0 : Int32), rfl, k⟩, hle_v57, ?_⟩
    intro p e s m args below meth c A H locs ls F hX hw hl
    obtain ⟨⟨hx, hb, hml, hown, hts⟩, hr, hlocks, hmn⟩ := id F
    refine lv_iconst (v := 0) hx hb d_L_law_1214 (by decide) ?_
    exact xr_zret F rfl hz9 hw d_L_law_1215
  have hx60 : ∀ (v59 : PS), (xZ (0 : Int32) ∧ K (0 : Int32) v59) → XNl x0 sL xs l Z i_L_law u (kI K) v59 1238 [] [] := by
    intro v59 k
    obtain ⟨hz9, k⟩ := k
    have hle_v59 : x_le v59 v59 := x_le.rf v59
    refine ⟨some (.int 0), v59, ⟨(0 : Int32), rfl, k⟩, hle_v59, ?_⟩
    intro p e s m args below meth c A H locs ls F hX hw hl
    obtain ⟨⟨hx, hb, hml, hown, hts⟩, hr, hlocks, hmn⟩ := id F
    refine lv_iconst (v := 0) hx hb d_L_law_1238 (by decide) ?_
    exact xr_zret F rfl hz9 hw d_L_law_1239
  have hx62 : ∀ (v61 : PS), (xZ (0 : Int32) ∧ K (0 : Int32) v61) → XNl x0 sL xs l Z i_L_law u (kI K) v61 1301 [] [] := by
    intro v61 k
    obtain ⟨hz9, k⟩ := k
    have hle_v61 : x_le v61 v61 := x_le.rf v61
    refine ⟨some (.int 0), v61, ⟨(0 : Int32), rfl, k⟩, hle_v61, ?_⟩
    intro p e s m args below meth c A H locs ls F hX hw hl
    obtain ⟨⟨hx, hb, hml, hown, hts⟩, hr, hlocks, hmn⟩ := id F
    refine lv_iconst (v := 0) hx hb d_L_law_1301 (by decide) ?_
    exact xr_zret F rfl hz9 hw d_L_law_1302
  have hx64 : ∀ (v63 : PS), (xZ (0 : Int32) ∧ K (0 : Int32) v63) → XNl x0 sL xs l Z i_L_law u (kI K) v63 1318 [] [] := by
    intro v63 k
    obtain ⟨hz9, k⟩ := k
    have hle_v63 : x_le v63 v63 := x_le.rf v63
    refine ⟨some (.int 0), v63, ⟨(0 : Int32), rfl, k⟩, hle_v63, ?_⟩
    intro p e s m args below meth c A H locs ls F hX hw hl
    obtain ⟨⟨hx, hb, hml, hown, hts⟩, hr, hlocks, hmn⟩ := id F
    refine lv_iconst (v := 0) hx hb d_L_law_1318 (by decide) ?_
    exact xr_zret F rfl hz9 hw d_L_law_1319
  have hx66 : ∀ (v65 : PS), (xZ (0 : Int32) ∧ K (0 : Int32) v65) → XNl x0 sL xs l Z i_L_law u (kI K) v65 1357 [] [] := by
    intro v65 k
    obtain ⟨hz9, k⟩ := k
    have hle_v65 : x_le v65 v65 := x_le.rf v65
    refine ⟨some (.int 0), v65, ⟨(0 : Int32), rfl, k⟩, hle_v65, ?_⟩
    intro p e s m args below meth c A H locs ls F hX hw hl
    obtain ⟨⟨hx, hb, hml, hown, hts⟩, hr, hlocks, hmn⟩ := id F
    refine lv_iconst (v := 0) hx hb d_L_law_1357 (by decide) ?_
    exact xr_zret F rfl hz9 hw d_L_law_1358
  have hx68 : ∀ (v67 : PS), (xZ (0 : Int32) ∧ K (0 : Int32) v67) → XNl x0 sL xs l Z i_L_law u (kI K) v67 1374 [] [] := by
    intro v67 k
    obtain ⟨hz9, k⟩ := k
    have hle_v67 : x_le v67 v67 := x_le.rf v67
    refine ⟨some (.int 0), v67, ⟨(0 : Int32), rfl, k⟩, hle_v67, ?_⟩
    intro p e s m args below meth c A H locs ls F hX hw hl
    obtain ⟨⟨hx, hb, hml, hown, hts⟩, hr, hlocks, hmn⟩ := id F
    refine lv_iconst (v := 0) hx hb d_L_law_1374 (by decide) ?_
    exact xr_zret F rfl hz9 hw d_L_law_1375
  have hx70 : ∀ (v69 : PS), (xZ (1 : Int32) ∧ K (1 : Int32) v69) → XNl x0 sL xs l Z i_L_law u (kI K) v69 1385 [] [] := by
    intro v69 k
    obtain ⟨hz9, k⟩ := k
    have hle_v69 : x_le v69 v69 := x_le.rf v69
    refine ⟨some (.int 1), v69, ⟨(1 : Int32), rfl, k⟩, hle_v69, ?_⟩
    intro p e s m args below meth c A H locs ls F hX hw hl
    obtain ⟨⟨hx, hb, hml, hown, hts⟩, hr, hlocks, hmn⟩ := id F
    refine lv_iconst (v := 1) hx hb d_L_law_1385 (by decide) ?_
    exact xr_zret F rfl hz9 hw d_L_law_1386
  obtain ⟨rv, v9, hK, hle_u_260, w9⟩ := t_L_law_L23 l Z u sL xs x0 a_253 a_256 a_259 hx8 hx10 hx12 hx14 hx16 hx18 hx20 hx22 hx24 hx26 hx28 hx30 hx32 hx34 hx36 hx38 hx40 hx42 hx44 hx46 hx48 hx50 hx52 hx54 hx56 hx58 hx60 hx62 hx64 hx66 hx68 hx70 n6 (0 : Int32) u_260 k
  have hle_u_258 : x_le u_258 v9 := (h5.le).tr hle_u_260
  have hle_u_257 : x_le u_257 v9 := (hM4.1).tr hle_u_258
  have hle_u_255 : x_le u_255 v9 := (h3.le).tr hle_u_257
  have hle_u_254 : x_le u_254 v9 := (hM2.1).tr hle_u_255
  have hle_u : x_le u v9 := (h1.le).tr hle_u_254
  refine ⟨rv, v9, hK, hle_u, ?_⟩
  intro p e s m args below meth c A H locs ls F hX hw hl
  obtain ⟨⟨hx, hb, hml, hown, hts⟩, hr, hlocks, hmn⟩ := id F
  refine xr_new hx hb hts (xmu uws_H) tyc_H tyc_H_ok hown (hts _ (xm w_17)) (hts _ (xm w_18)) (hts _ (xm w_1)) hw rfl rfl bl_H h1 hle_u_254 d_L_law_0 (fun H hw => ?_)
  refine lv_dup hx hb d_L_law_3 rfl ?_
  refine xr_cI (As := []) (rest := [.ref a_253]) ⟨hx, hb, hml, hown, hts⟩ hw hM2 hle_u_255 (fun _ _ => ⟨callB_of 0 hts (xgood w_21) rfl rfl rfl (hts _ (xm w_1)) (hts _ (xm w_19)) ⟨by decide, by decide, by decide +kernel⟩ ⟨Nat.le_of_ble_eq_true rfl, Nat.le_of_ble_eq_true rfl⟩, rfl, (hts _ (xm w_20))⟩) rfl hl.1 rfl (Nat.le_of_ble_eq_true rfl) d_L_law_4 (fun H locs hw => ?_)
  refine lv_astore_n (lv' := [(1, .ref a_253), (0, .ref x0)]) hx hb d_L_law_7 rfl hl (by decide) rfl (fun ls hl => ?_)
  refine xr_new hx hb hts (xmu uws_M) tyc_M tyc_M_ok hown (hts _ (xm w_861)) (hts _ (xm w_862)) (hts _ (xm w_8)) hw rfl rfl bl_M h3 hle_u_257 d_L_law_8 (fun H hw => ?_)
  refine lv_dup hx hb d_L_law_11 rfl ?_
  refine xr_cI (As := []) (rest := [.ref a_256]) ⟨hx, hb, hml, hown, hts⟩ hw hM4 hle_u_258 (fun _ _ => ⟨callB_of 0 hts (xgood w_865) rfl rfl rfl (hts _ (xm w_8)) (hts _ (xm w_863)) ⟨by decide, by decide, by decide +kernel⟩ ⟨Nat.le_of_ble_eq_true rfl, Nat.le_of_ble_eq_true rfl⟩, rfl, (hts _ (xm w_864))⟩) rfl hl.1 rfl (Nat.le_of_ble_eq_true rfl) d_L_law_12 (fun H locs hw => ?_)
  refine lv_astore_n (lv' := [(2, .ref a_256), (1, .ref a_253), (0, .ref x0)]) hx hb d_L_law_15 rfl hl (by decide) rfl (fun ls hl => ?_)
  refine lv_iconst (v := 1) hx hb d_L_law_16 (by decide) ?_
  refine xr_newal hx hb rfl (hts _ (xm w_50)) hw h5 hle_u_260 d_L_law_17 (fun H hw => ?_)
  refine lv_astore_n (lv' := [(3, .ref a_259), (2, .ref a_256), (1, .ref a_253), (0, .ref x0)]) hx hb d_L_law_19 rfl hl (by decide) rfl (fun ls hl => ?_)
  refine lv_iconst (v := 0) hx hb d_L_law_20 (by decide) ?_
  refine lv_istore (lv' := [(4, .int 0), (3, .ref a_259), (2, .ref a_256), (1, .ref a_253), (0, .ref x0)]) hx hb d_L_law_21 hl (by decide) rfl (fun ls hl => ?_)
  exact w9 p e s m args below meth c A H locs ls F hX hw (lv_sub hl [4, 3, 2, 1, 0] rfl)
