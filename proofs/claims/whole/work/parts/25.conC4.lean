set_option maxRecDepth 100000 in
set_option maxHeartbeats 4000000 in
theorem c_N_leave (l : Launch) (Z : XZ) : ∀ (d : Nat) (x0 : Nat) (x1 : Int32) (x2 : Int32) (u : PS) (K : PS → Prop) (k : p_N_leave d x0 x1 x2 u K), ∃ (rv : Option Value) (u1 : PS), kV K rv u1 ∧ XMet l Z (i_N_leave d) [.ref x0, .int x1, .int x2] u rv u1 := by
  intro d
  induction d with
  | zero => intro x0 x1 x2 u K k; exact False.elim k
  | succ d ihd =>
    intro x0 x1 x2 u K k
    refine x_met (show plainName y_N_leave.cls = true by decide) rfl (Nat.le_of_ble_eq_true rfl) ?_
    show XN l Z (i_N_leave (d + 1)) u (kV K) u 0 [(0, .ref x0), (1, .int x1), (2, .int x2)] []
    rw [p_N_leave] at k
    obtain ⟨z_11, h1, k⟩ := k
    obtain ⟨z_12, h2, k⟩ := k
    obtain ⟨u_13, h3, k⟩ := k
    obtain ⟨z_14, h4, k⟩ := k
    obtain ⟨z_15, h5, k⟩ := k
    by_cases hc6 : z_15 = 0
    · have k := k.2 hc6
      by_cases hc7 : x2 ≤ 0
      · have k := k.1 hc7
        have hle_u_13 : x_le u_13 u_13 := x_le.rf u_13
        have hle_u : x_le u u_13 := (h3.le).tr hle_u_13
        refine ⟨none, u_13, ⟨rfl, k⟩, hle_u, ?_⟩
        intro p e s m args below meth c A H locs ls F hw hl
        obtain ⟨⟨hx, hb, hml, hown, hts⟩, hr, hlocks, hmn⟩ := id F
        refine lv_aload_n hx hb d_N_leave_0 rfl (lv_at hl 0 rfl) ?_
        refine xr_get hx hb hts (xmu uws_N) hown hw h1 rfl (by decide) (hts _ (xm w_74)) (fun _ h9 => h9) d_N_leave_1 ?_
        refine lv_iload_n hx hb d_N_leave_4 rfl (lv_at hl 1 rfl) ?_
        refine lv_dup2_11 hx hb d_N_leave_5 rfl rfl ?_
        refine xr_iald hx hb hw h2 d_N_leave_6 ?_
        refine lv_iconst (v := 1) hx hb d_N_leave_7 (by decide) ?_
        refine lv_isub hx hb d_N_leave_8 ?_
        refine xr_iast hx hb hw h3 d_N_leave_9 (fun H locs hw => ?_)
        refine lv_aload_n hx hb d_N_leave_10 rfl (lv_at hl 0 rfl) ?_
        refine xr_get hx hb hts (xmu uws_N) hown hw h4 rfl (by decide) (hts _ (xm w_74)) (fun _ h9 => h9) d_N_leave_11 ?_
        refine lv_iload_n hx hb d_N_leave_14 rfl (lv_at hl 1 rfl) ?_
        refine xr_iald hx hb hw h5 d_N_leave_15 ?_
        refine lv_if_ne (tgt := 62) hx hb d_N_leave_16 (by decide) (fun c9 => absurd hc6 c9) (fun _ => ?_)
        refine lv_iload_n hx hb d_N_leave_19 rfl (lv_at hl 2 rfl) ?_
        refine lv_if_le (tgt := 62) hx hb d_N_leave_20 (by decide) (fun _ => ?_) (fun c9 => absurd hc7 c9)
        exact xr_vret F rfl hw d_N_leave_62
      · have k := k.2 hc7
        obtain ⟨z_16, h8, k⟩ := k
        obtain ⟨z_17, h9, k⟩ := k
        obtain ⟨h11, k⟩ := k
        obtain ⟨_, u_18, ⟨rfl, k⟩, hM10⟩ := c_N_forget l Z x0 x1 u_13 _ k
        obtain ⟨h13, k⟩ := k
        obtain ⟨_, u_19, ⟨rfl, k⟩, hM12⟩ := ihd x0 (((z_17.toUInt32 >>> ((14 : Int32).toUInt32 &&& Int32.toUInt32 31)).toInt32) &&& (16383 : Int32)) (x2 - (1 : Int32)) u_18 _ k
        obtain ⟨h15, k⟩ := k
        obtain ⟨_, u_20, ⟨rfl, k⟩, hM14⟩ := ihd x0 (z_17 &&& (16383 : Int32)) (x2 - (1 : Int32)) u_19 _ k
        have hle_u_20 : x_le u_20 u_20 := x_le.rf u_20
        have hle_u_19 : x_le u_19 u_20 := (hM14.1).tr hle_u_20
        have hle_u_18 : x_le u_18 u_20 := (hM12.1).tr hle_u_19
        have hle_u_13 : x_le u_13 u_20 := (hM10.1).tr hle_u_18
        have hle_u : x_le u u_20 := (h3.le).tr hle_u_13
        refine ⟨none, u_20, ⟨rfl, k⟩, hle_u, ?_⟩
        intro p e s m args below meth c A H locs ls F hw hl
        obtain ⟨⟨hx, hb, hml, hown, hts⟩, hr, hlocks, hmn⟩ := id F
        refine lv_aload_n hx hb d_N_leave_0 rfl (lv_at hl 0 rfl) ?_
        refine xr_get hx hb hts (xmu uws_N) hown hw h1 rfl (by decide) (hts _ (xm w_74)) (fun _ h9 => h9) d_N_leave_1 ?_
        refine lv_iload_n hx hb d_N_leave_4 rfl (lv_at hl 1 rfl) ?_
        refine lv_dup2_11 hx hb d_N_leave_5 rfl rfl ?_
        refine xr_iald hx hb hw h2 d_N_leave_6 ?_
        refine lv_iconst (v := 1) hx hb d_N_leave_7 (by decide) ?_
        refine lv_isub hx hb d_N_leave_8 ?_
        refine xr_iast hx hb hw h3 d_N_leave_9 (fun H locs hw => ?_)
        refine lv_aload_n hx hb d_N_leave_10 rfl (lv_at hl 0 rfl) ?_
        refine xr_get hx hb hts (xmu uws_N) hown hw h4 rfl (by decide) (hts _ (xm w_74)) (fun _ h9 => h9) d_N_leave_11 ?_
        refine lv_iload_n hx hb d_N_leave_14 rfl (lv_at hl 1 rfl) ?_
        refine xr_iald hx hb hw h5 d_N_leave_15 ?_
        refine lv_if_ne (tgt := 62) hx hb d_N_leave_16 (by decide) (fun c9 => absurd hc6 c9) (fun _ => ?_)
        refine lv_iload_n hx hb d_N_leave_19 rfl (lv_at hl 2 rfl) ?_
        refine lv_if_le (tgt := 62) hx hb d_N_leave_20 (by decide) (fun c9 => absurd c9 hc7) (fun _ => ?_)
        refine lv_aload_n hx hb d_N_leave_23 rfl (lv_at hl 0 rfl) ?_
        refine xr_get hx hb hts (xmu uws_N) hown hw h8 rfl (by decide) (hts _ (xm w_72)) (fun _ h9 => h9) d_N_leave_24 ?_
        refine lv_iload_n hx hb d_N_leave_27 rfl (lv_at hl 1 rfl) ?_
        refine xr_iald hx hb hw h9 d_N_leave_28 ?_
        refine lv_istore_n (lv' := [(3, .int z_17), (0, .ref x0), (1, .int x1), (2, .int x2)]) hx hb d_N_leave_29 rfl hl (show 3 < 4 by decide) rfl (fun ls hl => ?_)
        refine lv_aload_n hx hb d_N_leave_30 rfl (lv_at hl 1 rfl) ?_
        refine lv_iload_n hx hb d_N_leave_31 rfl (lv_at hl 2 rfl) ?_
        refine xr_cV (As := [.int x1]) (rest := []) ⟨hx, hb, hml, hown, hts⟩ hw hM10 hle_u_18 (fun _ _ => ⟨callB_of 1 hts (xgood w_383) rfl rfl rfl (hts _ (xm w_4)) (hts _ (xm w_380)) ⟨by decide, by decide, by decide +kernel⟩ ⟨show 1 + 1 ≤ 2 + (d + 1) by omega, show 8 + (5 + 11) + 25 ≤ 49 + (d + 1) * 23 by omega⟩, (hts _ (xm w_382)), (hts _ (xm wp_16))⟩) (qc := (R_N, F_N, 13)) rfl rfl h11 rfl hl.1 rfl (Nat.le_of_ble_eq_true rfl) d_N_leave_32 (fun H locs hw => ?_)
        refine W.eq (g2 := F0 m 35 ls []) rfl ?_
        refine lv_aload_n hx hb d_N_leave_35 rfl (lv_at hl 1 rfl) ?_
        refine lv_iload_n hx hb d_N_leave_36 rfl (lv_at hl 0 rfl) ?_
        refine lv_bipush (v := 14) hx hb d_N_leave_37 (by decide) ?_
        refine lv_iushr hx hb d_N_leave_39 rfl ?_
        refine lv_sipush (v := 16383) hx hb d_N_leave_40 (by decide) ?_
        refine lv_iand hx hb d_N_leave_43 ?_
        refine lv_iload_n hx hb d_N_leave_44 rfl (lv_at hl 3 rfl) ?_
        refine lv_iconst (v := 1) hx hb d_N_leave_45 (by decide) ?_
        refine lv_isub hx hb d_N_leave_46 ?_
        refine xr_cV (As := [.int (((z_17.toUInt32 >>> ((14 : Int32).toUInt32 &&& Int32.toUInt32 31)).toInt32) &&& (16383 : Int32)), .int (x2 - (1 : Int32))]) (rest := []) ⟨hx, hb, hml, hown, hts⟩ hw hM12 hle_u_19 (fun _ _ => ⟨callB_of 2 hts (xgood w_379) rfl rfl rfl (hts _ (xm w_4)) (hts _ (xm w_376)) ⟨show y_N_leave.cls ≠ "java/lang/invoke/MethodHandle" by decide, show y_N_leave.cls ≠ "java/lang/invoke/VarHandle" by decide, show (parseMethodDescriptor y_N_leave.desc).map (fun d => d.parameters.length) = some 2 by decide +kernel⟩ ⟨show (2 + d) + 1 ≤ 2 + (d + 1) by omega, show 8 + (4 + 11) + (49 + d * 23) ≤ 49 + (d + 1) * 23 by omega⟩, (hts _ (xm w_378)), (hts _ (xm wp_15))⟩) (qc := (R_N, F_N, 13)) rfl rfl h13 rfl hl.1 rfl (Nat.le_of_ble_eq_true rfl) d_N_leave_47 (fun H locs hw => ?_)
        refine W.eq (g2 := F0 m 50 ls []) rfl ?_
        refine lv_aload_n hx hb d_N_leave_50 rfl (lv_at hl 1 rfl) ?_
        refine lv_iload_n hx hb d_N_leave_51 rfl (lv_at hl 0 rfl) ?_
        refine lv_sipush (v := 16383) hx hb d_N_leave_52 (by decide) ?_
        refine lv_iand hx hb d_N_leave_55 ?_
        refine lv_iload_n hx hb d_N_leave_56 rfl (lv_at hl 3 rfl) ?_
        refine lv_iconst (v := 1) hx hb d_N_leave_57 (by decide) ?_
        refine lv_isub hx hb d_N_leave_58 ?_
        refine xr_cV (As := [.int (z_17 &&& (16383 : Int32)), .int (x2 - (1 : Int32))]) (rest := []) ⟨hx, hb, hml, hown, hts⟩ hw hM14 hle_u_20 (fun _ _ => ⟨callB_of 2 hts (xgood w_379) rfl rfl rfl (hts _ (xm w_4)) (hts _ (xm w_376)) ⟨show y_N_leave.cls ≠ "java/lang/invoke/MethodHandle" by decide, show y_N_leave.cls ≠ "java/lang/invoke/VarHandle" by decide, show (parseMethodDescriptor y_N_leave.desc).map (fun d => d.parameters.length) = some 2 by decide +kernel⟩ ⟨show (2 + d) + 1 ≤ 2 + (d + 1) by omega, show 8 + (4 + 11) + (49 + d * 23) ≤ 49 + (d + 1) * 23 by omega⟩, (hts _ (xm w_378)), (hts _ (xm wp_15))⟩) (qc := (R_N, F_N, 13)) rfl rfl h15 rfl hl.1 rfl (Nat.le_of_ble_eq_true rfl) d_N_leave_59 (fun H locs hw => ?_)
        refine W.eq (g2 := F0 m 62 ls []) rfl ?_
        exact xr_vret F rfl hw d_N_leave_62
    · have k := k.1 hc6
      have hle_u_13 : x_le u_13 u_13 := x_le.rf u_13
      have hle_u : x_le u u_13 := (h3.le).tr hle_u_13
      refine ⟨none, u_13, ⟨rfl, k⟩, hle_u, ?_⟩
      intro p e s m args below meth c A H locs ls F hw hl
      obtain ⟨⟨hx, hb, hml, hown, hts⟩, hr, hlocks, hmn⟩ := id F
      refine lv_aload_n hx hb d_N_leave_0 rfl (lv_at hl 0 rfl) ?_
      refine xr_get hx hb hts (xmu uws_N) hown hw h1 rfl (by decide) (hts _ (xm w_74)) (fun _ h9 => h9) d_N_leave_1 ?_
      refine lv_iload_n hx hb d_N_leave_4 rfl (lv_at hl 1 rfl) ?_
      refine lv_dup2_11 hx hb d_N_leave_5 rfl rfl ?_
      refine xr_iald hx hb hw h2 d_N_leave_6 ?_
      refine lv_iconst (v := 1) hx hb d_N_leave_7 (by decide) ?_
      refine lv_isub hx hb d_N_leave_8 ?_
      refine xr_iast hx hb hw h3 d_N_leave_9 (fun H locs hw => ?_)
      refine lv_aload_n hx hb d_N_leave_10 rfl (lv_at hl 0 rfl) ?_
      refine xr_get hx hb hts (xmu uws_N) hown hw h4 rfl (by decide) (hts _ (xm w_74)) (fun _ h9 => h9) d_N_leave_11 ?_
      refine lv_iload_n hx hb d_N_leave_14 rfl (lv_at hl 1 rfl) ?_
      refine xr_iald hx hb hw h5 d_N_leave_15 ?_
      refine lv_if_ne (tgt := 62) hx hb d_N_leave_16 (by decide) (fun _ => ?_) (fun c9 => absurd c9 hc6)
      exact xr_vret F rfl hw d_N_leave_62
set_option maxRecDepth 100000 in
set_option maxHeartbeats 4000000 in
theorem c_N_leadNoMore (l : Launch) (Z : XZ) (x0 : Nat) (x1 : Int32) (u : PS) (K : PS → Prop) (k : p_N_leadNoMore x0 x1 u K) : ∃ (rv : Option Value) (u1 : PS), (kV K) rv u1 ∧ XMet l Z i_N_leadNoMore [.ref x0, .int x1] u rv u1 := by
  refine x_met (by decide) rfl (Nat.le_of_ble_eq_true rfl) ?_
  show XN l Z i_N_leadNoMore u (kV K) u 0 [(0, .ref x0), (1, .int x1)] []
  unfold p_N_leadNoMore at k
  obtain ⟨h2, k⟩ := k
  obtain ⟨_, u_2, ⟨rfl, k⟩, hM1⟩ := c_N_leave l Z 12 x0 x1 (10 : Int32) u _ k
  have hle_u_2 : x_le u_2 u_2 := x_le.rf u_2
  have hle_u : x_le u u_2 := (hM1.1).tr hle_u_2
  refine ⟨none, u_2, ⟨rfl, k⟩, hle_u, ?_⟩
  intro p e s m args below meth c A H locs ls F hw hl
  obtain ⟨⟨hx, hb, hml, hown, hts⟩, hr, hlocks, hmn⟩ := id F
  refine lv_aload_n hx hb d_N_leadNoMore_0 rfl (lv_at hl 0 rfl) ?_
  refine lv_iload_n hx hb d_N_leadNoMore_1 rfl (lv_at hl 1 rfl) ?_
  refine lv_bipush (v := 10) hx hb d_N_leadNoMore_2 (by decide) ?_
  refine xr_cV (As := [.int x1, .int 10]) (rest := []) ⟨hx, hb, hml, hown, hts⟩ hw hM1 hle_u_2 (fun _ _ => ⟨callB_of 2 hts (xgood w_379) rfl rfl rfl (hts _ (xm w_4)) (hts _ (xm w_376)) ⟨by decide, by decide, by decide +kernel⟩ ⟨Nat.le_of_ble_eq_true rfl, Nat.le_of_ble_eq_true rfl⟩, (hts _ (xm w_378)), (hts _ (xm wp_15))⟩) (qc := (R_N, F_N, 13)) rfl rfl h2 rfl hl.1 rfl (Nat.le_of_ble_eq_true rfl) d_N_leadNoMore_4 (fun H locs hw => ?_)
  refine W.eq (g2 := F0 m 7 ls []) rfl ?_
  exact xr_vret F rfl hw d_N_leadNoMore_7
set_option maxRecDepth 100000 in
set_option maxHeartbeats 4000000 in
theorem c_N_unseenFrom (l : Launch) (Z : XZ) : ∀ (d : Nat) (x0 : Nat) (x1 : Int32) (x2 : Int32) (u : PS) (K : Int32 → PS → Prop) (k : p_N_unseenFrom d x0 x1 x2 u K), ∃ (rv : Option Value) (u1 : PS), kI K rv u1 ∧ XMet l Z (i_N_unseenFrom d) [.ref x0, .int x1, .int x2] u rv u1 := by
  intro d
  induction d with
  | zero => intro x0 x1 x2 u K k; exact False.elim k
  | succ d ihd =>
    intro x0 x1 x2 u K k
    refine x_met (show plainName y_N_unseenFrom.cls = true by decide) rfl (Nat.le_of_ble_eq_true rfl) ?_
    show XN l Z (i_N_unseenFrom (d + 1)) u (kI K) u 0 [(0, .ref x0), (1, .int x1), (2, .int x2)] []
    rw [p_N_unseenFrom] at k
    by_cases hc1 : x1 < 2
    · have k := k.1 hc1
      have hle_u : x_le u u := x_le.rf u
      refine ⟨some (.int 0), u, ⟨(0 : Int32), rfl, k⟩, hle_u, ?_⟩
      intro p e s m args below meth c A H locs ls F hw hl
      obtain ⟨⟨hx, hb, hml, hown, hts⟩, hr, hlocks, hmn⟩ := id F
      refine lv_iload_n hx hb d_N_unseenFrom_0 rfl (lv_at hl 1 rfl) ?_
      refine lv_iconst (v := 2) hx hb d_N_unseenFrom_1 (by decide) ?_
      refine lv_icmp_lt (tgt := 22) hx hb d_N_unseenFrom_2 (by decide) (fun _ => ?_) (fun c9 => absurd hc1 c9)
      refine lv_iconst (v := 0) hx hb d_N_unseenFrom_22 (by decide) ?_
      exact xr_iret F rfl hw d_N_unseenFrom_23
    · have k := k.2 hc1
      by_cases hc2 : x2 = 0
      · have k := k.1 hc2
        have hle_u : x_le u u := x_le.rf u
        refine ⟨some (.int 0), u, ⟨(0 : Int32), rfl, k⟩, hle_u, ?_⟩
        intro p e s m args below meth c A H locs ls F hw hl
        obtain ⟨⟨hx, hb, hml, hown, hts⟩, hr, hlocks, hmn⟩ := id F
        refine lv_iload_n hx hb d_N_unseenFrom_0 rfl (lv_at hl 1 rfl) ?_
        refine lv_iconst (v := 2) hx hb d_N_unseenFrom_1 (by decide) ?_
        refine lv_icmp_lt (tgt := 22) hx hb d_N_unseenFrom_2 (by decide) (fun c9 => absurd c9 hc1) (fun _ => ?_)
        refine lv_iload_n hx hb d_N_unseenFrom_5 rfl (lv_at hl 2 rfl) ?_
        refine lv_if_eq (tgt := 22) hx hb d_N_unseenFrom_6 (by decide) (fun _ => ?_) (fun c9 => absurd hc2 c9)
        refine lv_iconst (v := 0) hx hb d_N_unseenFrom_22 (by decide) ?_
        exact xr_iret F rfl hw d_N_unseenFrom_23
      · have k := k.2 hc2
        obtain ⟨z_13, h3, k⟩ := k
        obtain ⟨z_14, h4, k⟩ := k
        obtain ⟨z_15, h5, k⟩ := k
        by_cases hc6 : z_14 = z_15
        · have k := k.2 hc6
          have hle_u : x_le u u := x_le.rf u
          refine ⟨some (.int 0), u, ⟨(0 : Int32), rfl, k⟩, hle_u, ?_⟩
          intro p e s m args below meth c A H locs ls F hw hl
          obtain ⟨⟨hx, hb, hml, hown, hts⟩, hr, hlocks, hmn⟩ := id F
          refine lv_iload_n hx hb d_N_unseenFrom_0 rfl (lv_at hl 1 rfl) ?_
          refine lv_iconst (v := 2) hx hb d_N_unseenFrom_1 (by decide) ?_
          refine lv_icmp_lt (tgt := 22) hx hb d_N_unseenFrom_2 (by decide) (fun c9 => absurd c9 hc1) (fun _ => ?_)
          refine lv_iload_n hx hb d_N_unseenFrom_5 rfl (lv_at hl 2 rfl) ?_
          refine lv_if_eq (tgt := 22) hx hb d_N_unseenFrom_6 (by decide) (fun c9 => absurd c9 hc2) (fun _ => ?_)
          refine lv_aload_n hx hb d_N_unseenFrom_9 rfl (lv_at hl 0 rfl) ?_
          refine xr_get hx hb hts (xmu uws_N) hown hw h3 rfl (by decide) (hts _ (xm w_88)) (fun _ h9 => h9) d_N_unseenFrom_10 ?_
          refine lv_iload_n hx hb d_N_unseenFrom_13 rfl (lv_at hl 1 rfl) ?_
          refine xr_iald hx hb hw h4 d_N_unseenFrom_14 ?_
          refine lv_aload_n hx hb d_N_unseenFrom_15 rfl (lv_at hl 0 rfl) ?_
          refine xr_get hx hb hts (xmu uws_N) hown hw h5 rfl (by decide) (hts _ (xm w_89)) (fun _ h9 => h9) d_N_unseenFrom_16 ?_
          refine lv_icmp_ne (tgt := 24) hx hb d_N_unseenFrom_19 (by decide) (fun c9 => absurd hc6 c9) (fun _ => ?_)
          refine lv_iconst (v := 0) hx hb d_N_unseenFrom_22 (by decide) ?_
          exact xr_iret F rfl hw d_N_unseenFrom_23
        · have k := k.1 hc6
          obtain ⟨z_16, h7, k⟩ := k
          obtain ⟨z_17, h8, k⟩ := k
          obtain ⟨u_18, h9, k⟩ := k
          obtain ⟨z_19, h10, k⟩ := k
          obtain ⟨z_20, h11, k⟩ := k
          obtain ⟨h13, k⟩ := k
          obtain ⟨_, u_21, ⟨r_22, rfl, k⟩, hM12⟩ := ihd x0 (((z_20.toUInt32 >>> ((14 : Int32).toUInt32 &&& Int32.toUInt32 31)).toInt32) &&& (16383 : Int32)) (x2 - (1 : Int32)) u_18 _ k
          obtain ⟨h15, k⟩ := k
          obtain ⟨_, u_23, ⟨r_24, rfl, k⟩, hM14⟩ := ihd x0 (z_20 &&& (16383 : Int32)) (x2 - (1 : Int32)) u_21 _ k
          have hle_u_23 : x_le u_23 u_23 := x_le.rf u_23
          have hle_u_21 : x_le u_21 u_23 := (hM14.1).tr hle_u_23
          have hle_u_18 : x_le u_18 u_23 := (hM12.1).tr hle_u_21
          have hle_u : x_le u u_23 := (h9.le).tr hle_u_18
          refine ⟨some (.int (((1 : Int32) + r_22) + r_24)), u_23, ⟨(((1 : Int32) + r_22) + r_24), rfl, k⟩, hle_u, ?_⟩
          intro p e s m args below meth c A H locs ls F hw hl
          obtain ⟨⟨hx, hb, hml, hown, hts⟩, hr, hlocks, hmn⟩ := id F
          refine lv_iload_n hx hb d_N_unseenFrom_0 rfl (lv_at hl 1 rfl) ?_
          refine lv_iconst (v := 2) hx hb d_N_unseenFrom_1 (by decide) ?_
          refine lv_icmp_lt (tgt := 22) hx hb d_N_unseenFrom_2 (by decide) (fun c9 => absurd c9 hc1) (fun _ => ?_)
          refine lv_iload_n hx hb d_N_unseenFrom_5 rfl (lv_at hl 2 rfl) ?_
          refine lv_if_eq (tgt := 22) hx hb d_N_unseenFrom_6 (by decide) (fun c9 => absurd c9 hc2) (fun _ => ?_)
          refine lv_aload_n hx hb d_N_unseenFrom_9 rfl (lv_at hl 0 rfl) ?_
          refine xr_get hx hb hts (xmu uws_N) hown hw h3 rfl (by decide) (hts _ (xm w_88)) (fun _ h9 => h9) d_N_unseenFrom_10 ?_
          refine lv_iload_n hx hb d_N_unseenFrom_13 rfl (lv_at hl 1 rfl) ?_
          refine xr_iald hx hb hw h4 d_N_unseenFrom_14 ?_
          refine lv_aload_n hx hb d_N_unseenFrom_15 rfl (lv_at hl 0 rfl) ?_
          refine xr_get hx hb hts (xmu uws_N) hown hw h5 rfl (by decide) (hts _ (xm w_89)) (fun _ h9 => h9) d_N_unseenFrom_16 ?_
          refine lv_icmp_ne (tgt := 24) hx hb d_N_unseenFrom_19 (by decide) (fun _ => ?_) (fun c9 => absurd c9 hc6)
          refine lv_aload_n hx hb d_N_unseenFrom_24 rfl (lv_at hl 0 rfl) ?_
          refine xr_get hx hb hts (xmu uws_N) hown hw h7 rfl (by decide) (hts _ (xm w_88)) (fun _ h9 => h9) d_N_unseenFrom_25 ?_
          refine lv_iload_n hx hb d_N_unseenFrom_28 rfl (lv_at hl 1 rfl) ?_
          refine lv_aload_n hx hb d_N_unseenFrom_29 rfl (lv_at hl 0 rfl) ?_
          refine xr_get hx hb hts (xmu uws_N) hown hw h8 rfl (by decide) (hts _ (xm w_89)) (fun _ h9 => h9) d_N_unseenFrom_30 ?_
          refine xr_iast hx hb hw h9 d_N_unseenFrom_33 (fun H locs hw => ?_)
          refine lv_aload_n hx hb d_N_unseenFrom_34 rfl (lv_at hl 0 rfl) ?_
          refine xr_get hx hb hts (xmu uws_N) hown hw h10 rfl (by decide) (hts _ (xm w_72)) (fun _ h9 => h9) d_N_unseenFrom_35 ?_
          refine lv_iload_n hx hb d_N_unseenFrom_38 rfl (lv_at hl 1 rfl) ?_
          refine xr_iald hx hb hw h11 d_N_unseenFrom_39 ?_
          refine lv_istore_n (lv' := [(3, .int z_20), (0, .ref x0), (1, .int x1), (2, .int x2)]) hx hb d_N_unseenFrom_40 rfl hl (show 3 < 4 by decide) rfl (fun ls hl => ?_)
          refine lv_iconst (v := 1) hx hb d_N_unseenFrom_41 (by decide) ?_
          refine lv_aload_n hx hb d_N_unseenFrom_42 rfl (lv_at hl 1 rfl) ?_
          refine lv_iload_n hx hb d_N_unseenFrom_43 rfl (lv_at hl 0 rfl) ?_
          refine lv_bipush (v := 14) hx hb d_N_unseenFrom_44 (by decide) ?_
          refine lv_iushr hx hb d_N_unseenFrom_46 rfl ?_
          refine lv_sipush (v := 16383) hx hb d_N_unseenFrom_47 (by decide) ?_
          refine lv_iand hx hb d_N_unseenFrom_50 ?_
          refine lv_iload_n hx hb d_N_unseenFrom_51 rfl (lv_at hl 3 rfl) ?_
          refine lv_iconst (v := 1) hx hb d_N_unseenFrom_52 (by decide) ?_
          refine lv_isub hx hb d_N_unseenFrom_53 ?_
          refine xr_cV (As := [.int (((z_20.toUInt32 >>> ((14 : Int32).toUInt32 &&& Int32.toUInt32 31)).toInt32) &&& (16383 : Int32)), .int (x2 - (1 : Int32))]) (rest := [.int 1]) ⟨hx, hb, hml, hown, hts⟩ hw hM12 hle_u_21 (fun _ _ => ⟨callB_of 2 hts (xgood w_773) rfl rfl rfl (hts _ (xm w_4)) (hts _ (xm w_770)) ⟨show y_N_unseenFrom.cls ≠ "java/lang/invoke/MethodHandle" by decide, show y_N_unseenFrom.cls ≠ "java/lang/invoke/VarHandle" by decide, show (parseMethodDescriptor y_N_unseenFrom.desc).map (fun d => d.parameters.length) = some 2 by decide +kernel⟩ ⟨show (0 + d) + 1 ≤ 0 + (d + 1) by omega, show 8 + (4 + 11) + (0 + d * 23) ≤ 0 + (d + 1) * 23 by omega⟩, (hts _ (xm w_772)), (hts _ (xm wp_37))⟩) (qc := (R_N, F_N, 13)) rfl rfl h13 rfl hl.1 rfl (Nat.le_of_ble_eq_true rfl) d_N_unseenFrom_54 (fun H locs hw => ?_)
          refine W.eq (g2 := F0 m 57 ls [.int r_22, .int 1]) rfl ?_
          refine lv_iadd hx hb d_N_unseenFrom_57 ?_
          refine lv_aload_n hx hb d_N_unseenFrom_58 rfl (lv_at hl 1 rfl) ?_
          refine lv_iload_n hx hb d_N_unseenFrom_59 rfl (lv_at hl 0 rfl) ?_
          refine lv_sipush (v := 16383) hx hb d_N_unseenFrom_60 (by decide) ?_
          refine lv_iand hx hb d_N_unseenFrom_63 ?_
          refine lv_iload_n hx hb d_N_unseenFrom_64 rfl (lv_at hl 3 rfl) ?_
          refine lv_iconst (v := 1) hx hb d_N_unseenFrom_65 (by decide) ?_
          refine lv_isub hx hb d_N_unseenFrom_66 ?_
          refine xr_cV (As := [.int (z_20 &&& (16383 : Int32)), .int (x2 - (1 : Int32))]) (rest := [.int ((1 : Int32) + r_22)]) ⟨hx, hb, hml, hown, hts⟩ hw hM14 hle_u_23 (fun _ _ => ⟨callB_of 2 hts (xgood w_773) rfl rfl rfl (hts _ (xm w_4)) (hts _ (xm w_770)) ⟨show y_N_unseenFrom.cls ≠ "java/lang/invoke/MethodHandle" by decide, show y_N_unseenFrom.cls ≠ "java/lang/invoke/VarHandle" by decide, show (parseMethodDescriptor y_N_unseenFrom.desc).map (fun d => d.parameters.length) = some 2 by decide +kernel⟩ ⟨show (0 + d) + 1 ≤ 0 + (d + 1) by omega, show 8 + (4 + 11) + (0 + d * 23) ≤ 0 + (d + 1) * 23 by omega⟩, (hts _ (xm w_772)), (hts _ (xm wp_37))⟩) (qc := (R_N, F_N, 13)) rfl rfl h15 rfl hl.1 rfl (Nat.le_of_ble_eq_true rfl) d_N_unseenFrom_67 (fun H locs hw => ?_)
          refine W.eq (g2 := F0 m 70 ls [.int r_24, .int ((1 : Int32) + r_22)]) rfl ?_
          refine lv_iadd hx hb d_N_unseenFrom_70 ?_
          exact xr_iret F rfl hw d_N_unseenFrom_71
set_option maxRecDepth 100000 in
set_option maxHeartbeats 4000000 in
theorem c_N_sizeFrom (l : Launch) (Z : XZ) (x0 : Nat) (x1 : Int32) (u : PS) (K : Int32 → PS → Prop) (k : p_N_sizeFrom x0 x1 u K) : ∃ (rv : Option Value) (u1 : PS), (kI K) rv u1 ∧ XMet l Z i_N_sizeFrom [.ref x0, .int x1] u rv u1 := by
  refine x_met (by decide) rfl (Nat.le_of_ble_eq_true rfl) ?_
  show XN l Z i_N_sizeFrom u (kI K) u 0 [(0, .ref x0), (1, .int x1)] []
  unfold p_N_sizeFrom at k
  obtain ⟨z_5, h1, k⟩ := k
  obtain ⟨u_6, h2, k⟩ := k
  obtain ⟨h4, k⟩ := k
  obtain ⟨_, u_7, ⟨r_8, rfl, k⟩, hM3⟩ := c_N_unseenFrom l Z 12 x0 x1 (10 : Int32) u_6 _ k
  have hle_u_7 : x_le u_7 u_7 := x_le.rf u_7
  have hle_u_6 : x_le u_6 u_7 := (hM3.1).tr hle_u_7
  have hle_u : x_le u u_7 := (h2.le).tr hle_u_6
  refine ⟨some (.int r_8), u_7, ⟨r_8, rfl, k⟩, hle_u, ?_⟩
  intro p e s m args below meth c A H locs ls F hw hl
  obtain ⟨⟨hx, hb, hml, hown, hts⟩, hr, hlocks, hmn⟩ := id F
  refine lv_aload_n hx hb d_N_sizeFrom_0 rfl (lv_at hl 0 rfl) ?_
  refine lv_dup hx hb d_N_sizeFrom_1 rfl ?_
  refine xr_get hx hb hts (xmu uws_N) hown hw h1 rfl (by decide) (hts _ (xm w_89)) (fun _ h9 => h9) d_N_sizeFrom_2 ?_
  refine lv_iconst (v := 1) hx hb d_N_sizeFrom_5 (by decide) ?_
  refine lv_iadd hx hb d_N_sizeFrom_6 ?_
  refine xr_put (ty := .int) hx hb hts (xmu uws_N) tyc_N tyc_N_ok nmc_N hown hw h2 rfl (by decide) (hts _ (xm w_89)) (fun _ h9 => h9) rfl (by decide +kernel) rfl rfl d_N_sizeFrom_7 (fun H locs hw => ?_)
  refine lv_aload_n hx hb d_N_sizeFrom_10 rfl (lv_at hl 0 rfl) ?_
  refine lv_iload_n hx hb d_N_sizeFrom_11 rfl (lv_at hl 1 rfl) ?_
  refine lv_bipush (v := 10) hx hb d_N_sizeFrom_12 (by decide) ?_
  refine xr_cV (As := [.int x1, .int 10]) (rest := []) ⟨hx, hb, hml, hown, hts⟩ hw hM3 hle_u_7 (fun _ _ => ⟨callB_of 2 hts (xgood w_773) rfl rfl rfl (hts _ (xm w_4)) (hts _ (xm w_770)) ⟨by decide, by decide, by decide +kernel⟩ ⟨Nat.le_of_ble_eq_true rfl, Nat.le_of_ble_eq_true rfl⟩, (hts _ (xm w_772)), (hts _ (xm wp_37))⟩) (qc := (R_N, F_N, 13)) rfl rfl h4 rfl hl.1 rfl (Nat.le_of_ble_eq_true rfl) d_N_sizeFrom_14 (fun H locs hw => ?_)
  refine W.eq (g2 := F0 m 17 ls [.int r_8]) rfl ?_
  exact xr_iret F rfl hw d_N_sizeFrom_17
set_option maxRecDepth 100000 in
set_option maxHeartbeats 4000000 in
theorem t_N_questionFrom_J72 (l : Launch) (Z : XZ) (u0 : PS) {Kv : Option Value → PS → Prop} {R : Int32 → Int32 → PS → Prop} {E41 : Int32 → PS → Prop} {E80 : PS → Prop} (x0 : Nat) (x2 : Int32) (x3 : Int32) (x5 : Int32) (s0 : Int32) (u : PS) (hR : ∀ (y4 : Int32) (y5 : Int32) (v : PS), R y4 y5 v → XN l Z i_N_questionFrom u0 Kv v 6 [(0, .ref x0), (2, .int x2), (3, .int x3), (4, .int y4), (5, .int y5)] []) (hE41 : ∀ (y7 : Int32) (v : PS), E41 y7 v → XN l Z i_N_questionFrom u0 Kv v 41 [(7, .int y7)] []) (hE80 : ∀ (v : PS), E80 v → XN l Z i_N_questionFrom u0 Kv v 80 [] []) (k : (p_N_questionFrom_J72 R E41 E80 x0 x2 x3 x5 s0 u)) : XN l Z i_N_questionFrom u0 Kv u 72 [(0, .ref x0), (2, .int x2), (3, .int x3), (5, .int x5)] [.int s0] := by
  unfold p_N_questionFrom_J72 at k
  obtain ⟨y1, ey1⟩ : ∃ y9 : Int32, y9 = x5 + 1 := ⟨_, rfl⟩
  have k := k y1 ey1
  obtain ⟨rv, v9, hK, hle_u, w9⟩ := hR s0 y1 u k
  refine ⟨rv, v9, hK, hle_u, ?_⟩
  intro p e s m args below meth c A H locs ls F hw hl
  obtain ⟨⟨hx, hb, hml, hown, hts⟩, hr, hlocks, hmn⟩ := id F
  refine lv_istore (lv' := [(4, .int s0), (0, .ref x0), (2, .int x2), (3, .int x3), (5, .int x5)]) hx hb d_N_questionFrom_72 hl (by decide) rfl (fun ls hl => ?_)
  refine lv_iinc (v := y1) (lv' := [(5, .int y1), (4, .int s0), (0, .ref x0), (2, .int x2), (3, .int x3)]) hx hb d_N_questionFrom_74 hl (k := 4) rfl (by subst ey1; rfl) (by decide) rfl (fun ls hl => ?_)
  refine lv_goto (tgt := 6) hx hb d_N_questionFrom_77 (by decide) ?_
  exact w9 p e s m args below meth c A H locs ls F hw (lv_sub hl [2, 3, 4, 1, 0] rfl)
set_option maxRecDepth 100000 in
set_option maxHeartbeats 4000000 in
theorem t_N_questionFrom_L6 (l : Launch) (Z : XZ) (u0 : PS) {Kv : Option Value → PS → Prop} {E41 : Int32 → PS → Prop} {E80 : PS → Prop} (x0 : Nat) (x2 : Int32) (x3 : Int32) (hE41 : ∀ (y7 : Int32) (v : PS), E41 y7 v → XN l Z i_N_questionFrom u0 Kv v 41 [(7, .int y7)] []) (hE80 : ∀ (v : PS), E80 v → XN l Z i_N_questionFrom u0 Kv v 80 [] []) : ∀ (n : Nat) (x4 : Int32) (x5 : Int32) (u : PS), p_N_questionFrom_L6 x0 x2 x3 E41 E80 n x4 x5 u → XN l Z i_N_questionFrom u0 Kv u 6 [(0, .ref x0), (2, .int x2), (3, .int x3), (4, .int x4), (5, .int x5)] [] := by
  intro n
  induction n with
  | zero => intro x4 x5 u k; exact False.elim k
  | succ n ih =>
    intro x4 x5 u k
    rw [p_N_questionFrom_L6] at k
    by_cases hc1 : 10 ≤ x5
    · have k := k.1 hc1
      obtain ⟨rv, v9, hK, hle_u, w9⟩ := hE80 u k
      refine ⟨rv, v9, hK, hle_u, ?_⟩
      intro p e s m args below meth c A H locs ls F hw hl
      obtain ⟨⟨hx, hb, hml, hown, hts⟩, hr, hlocks, hmn⟩ := id F
      refine lv_iload hx hb d_N_questionFrom_6 (lv_at hl 4 rfl) ?_
      refine lv_bipush (v := 10) hx hb d_N_questionFrom_8 (by decide) ?_
      refine lv_icmp_ge (tgt := 80) hx hb d_N_questionFrom_10 (by decide) (fun _ => ?_) (fun c9 => absurd hc1 c9)
      exact w9 p e s m args below meth c A H locs ls F hw (lv_sub hl [] rfl)
    · have k := k.2 hc1
      by_cases hc2 : x4 < 2
      · have k := k.1 hc2
        obtain ⟨rv, v9, hK, hle_u, w9⟩ := hE80 u k
        refine ⟨rv, v9, hK, hle_u, ?_⟩
        intro p e s m args below meth c A H locs ls F hw hl
        obtain ⟨⟨hx, hb, hml, hown, hts⟩, hr, hlocks, hmn⟩ := id F
        refine lv_iload hx hb d_N_questionFrom_6 (lv_at hl 4 rfl) ?_
        refine lv_bipush (v := 10) hx hb d_N_questionFrom_8 (by decide) ?_
        refine lv_icmp_ge (tgt := 80) hx hb d_N_questionFrom_10 (by decide) (fun c9 => absurd c9 hc1) (fun _ => ?_)
        refine lv_iload hx hb d_N_questionFrom_13 (lv_at hl 3 rfl) ?_
        refine lv_iconst (v := 2) hx hb d_N_questionFrom_15 (by decide) ?_
        refine lv_icmp_lt (tgt := 80) hx hb d_N_questionFrom_16 (by decide) (fun _ => ?_) (fun c9 => absurd hc2 c9)
        exact w9 p e s m args below meth c A H locs ls F hw (lv_sub hl [] rfl)
      · have k := k.2 hc2
        obtain ⟨z_9, h3, k⟩ := k
        obtain ⟨z_10, h4, k⟩ := k
        obtain ⟨y5, ey5⟩ : ∃ y9 : Int32, y9 = ((z_10.toUInt32 >>> ((28 : Int32).toUInt32 &&& Int32.toUInt32 31)).toInt32) := ⟨_, rfl⟩
        have k := k y5 ey5
        by_cases hc6 : x5 = x3
        · have k := k.2 hc6
          obtain ⟨rv, v9, hK, hle_u, w9⟩ := hE41 y5 u k
          refine ⟨rv, v9, hK, hle_u, ?_⟩
          intro p e s m args below meth c A H locs ls F hw hl
          obtain ⟨⟨hx, hb, hml, hown, hts⟩, hr, hlocks, hmn⟩ := id F
          refine lv_iload hx hb d_N_questionFrom_6 (lv_at hl 4 rfl) ?_
          refine lv_bipush (v := 10) hx hb d_N_questionFrom_8 (by decide) ?_
          refine lv_icmp_ge (tgt := 80) hx hb d_N_questionFrom_10 (by decide) (fun c9 => absurd c9 hc1) (fun _ => ?_)
          refine lv_iload hx hb d_N_questionFrom_13 (lv_at hl 3 rfl) ?_
          refine lv_iconst (v := 2) hx hb d_N_questionFrom_15 (by decide) ?_
          refine lv_icmp_lt (tgt := 80) hx hb d_N_questionFrom_16 (by decide) (fun c9 => absurd c9 hc2) (fun _ => ?_)
          refine lv_aload_n hx hb d_N_questionFrom_19 rfl (lv_at hl 0 rfl) ?_
          refine xr_get hx hb hts (xmu uws_N) hown hw h3 rfl (by decide) (hts _ (xm w_72)) (fun _ h9 => h9) d_N_questionFrom_20 ?_
          refine lv_iload hx hb d_N_questionFrom_23 (lv_at hl 3 rfl) ?_
          refine xr_iald hx hb hw h4 d_N_questionFrom_25 ?_
          refine lv_istore (lv' := [(6, .int z_10), (0, .ref x0), (2, .int x2), (3, .int x3), (4, .int x4), (5, .int x5)]) hx hb d_N_questionFrom_26 hl (by decide) rfl (fun ls hl => ?_)
          refine lv_iload hx hb d_N_questionFrom_28 (lv_at hl 0 rfl) ?_
          refine lv_bipush (v := 28) hx hb d_N_questionFrom_30 (by decide) ?_
          refine lv_iushr hx hb d_N_questionFrom_32 rfl ?_
          refine lv_istore (lv' := [(7, .int y5), (6, .int z_10), (0, .ref x0), (2, .int x2), (3, .int x3), (4, .int x4), (5, .int x5)]) hx hb d_N_questionFrom_33 hl (by decide) (by subst ey5; rfl) (fun ls hl => ?_)
          refine lv_iload hx hb d_N_questionFrom_35 (lv_at hl 6 rfl) ?_
          refine lv_iload_n hx hb d_N_questionFrom_37 rfl (lv_at hl 4 rfl) ?_
          refine lv_icmp_ne (tgt := 44) hx hb d_N_questionFrom_38 (by decide) (fun c9 => absurd hc6 c9) (fun _ => ?_)
          exact w9 p e s m args below meth c A H locs ls F hw (lv_sub hl [0] rfl)
        · have k := k.1 hc6
          by_cases hc7 : ((x2 >>> (y5 &&& 31)) &&& (1 : Int32)) = 1
          · have k := k.2 hc7
            obtain ⟨rv, v9, hK, hle_u, w9⟩ := t_N_questionFrom_J72 l Z u0 x0 x2 x3 x5 (z_10 &&& (16383 : Int32)) u ih hE41 hE80 k
            refine ⟨rv, v9, hK, hle_u, ?_⟩
            intro p e s m args below meth c A H locs ls F hw hl
            obtain ⟨⟨hx, hb, hml, hown, hts⟩, hr, hlocks, hmn⟩ := id F
            refine lv_iload hx hb d_N_questionFrom_6 (lv_at hl 4 rfl) ?_
            refine lv_bipush (v := 10) hx hb d_N_questionFrom_8 (by decide) ?_
            refine lv_icmp_ge (tgt := 80) hx hb d_N_questionFrom_10 (by decide) (fun c9 => absurd c9 hc1) (fun _ => ?_)
            refine lv_iload hx hb d_N_questionFrom_13 (lv_at hl 3 rfl) ?_
            refine lv_iconst (v := 2) hx hb d_N_questionFrom_15 (by decide) ?_
            refine lv_icmp_lt (tgt := 80) hx hb d_N_questionFrom_16 (by decide) (fun c9 => absurd c9 hc2) (fun _ => ?_)
            refine lv_aload_n hx hb d_N_questionFrom_19 rfl (lv_at hl 0 rfl) ?_
            refine xr_get hx hb hts (xmu uws_N) hown hw h3 rfl (by decide) (hts _ (xm w_72)) (fun _ h9 => h9) d_N_questionFrom_20 ?_
            refine lv_iload hx hb d_N_questionFrom_23 (lv_at hl 3 rfl) ?_
            refine xr_iald hx hb hw h4 d_N_questionFrom_25 ?_
            refine lv_istore (lv' := [(6, .int z_10), (0, .ref x0), (2, .int x2), (3, .int x3), (4, .int x4), (5, .int x5)]) hx hb d_N_questionFrom_26 hl (by decide) rfl (fun ls hl => ?_)
            refine lv_iload hx hb d_N_questionFrom_28 (lv_at hl 0 rfl) ?_
            refine lv_bipush (v := 28) hx hb d_N_questionFrom_30 (by decide) ?_
            refine lv_iushr hx hb d_N_questionFrom_32 rfl ?_
            refine lv_istore (lv' := [(7, .int y5), (6, .int z_10), (0, .ref x0), (2, .int x2), (3, .int x3), (4, .int x4), (5, .int x5)]) hx hb d_N_questionFrom_33 hl (by decide) (by subst ey5; rfl) (fun ls hl => ?_)
            refine lv_iload hx hb d_N_questionFrom_35 (lv_at hl 6 rfl) ?_
            refine lv_iload_n hx hb d_N_questionFrom_37 rfl (lv_at hl 4 rfl) ?_
            refine lv_icmp_ne (tgt := 44) hx hb d_N_questionFrom_38 (by decide) (fun _ => ?_) (fun c9 => absurd c9 hc6)
            refine lv_iload_n hx hb d_N_questionFrom_44 rfl (lv_at hl 3 rfl) ?_
            refine lv_iload hx hb d_N_questionFrom_45 (lv_at hl 0 rfl) ?_
            refine lv_ishr hx hb d_N_questionFrom_47 ?_
            refine lv_iconst (v := 1) hx hb d_N_questionFrom_48 (by decide) ?_
            refine lv_iand hx hb d_N_questionFrom_49 ?_
            refine lv_iconst (v := 1) hx hb d_N_questionFrom_50 (by decide) ?_
            refine lv_icmp_ne (tgt := 63) hx hb d_N_questionFrom_51 (by decide) (fun c9 => absurd hc7 c9) (fun _ => ?_)
            refine lv_iload hx hb d_N_questionFrom_54 (lv_at hl 1 rfl) ?_
            refine lv_sipush (v := 16383) hx hb d_N_questionFrom_56 (by decide) ?_
            refine lv_iand hx hb d_N_questionFrom_59 ?_
            refine lv_goto (tgt := 72) hx hb d_N_questionFrom_60 (by decide) ?_
            exact w9 p e s m args below meth c A H locs ls F hw (lv_sub hl [2, 3, 4, 6] rfl)
          · have k := k.1 hc7
            obtain ⟨rv, v9, hK, hle_u, w9⟩ := t_N_questionFrom_J72 l Z u0 x0 x2 x3 x5 (((z_10.toUInt32 >>> ((14 : Int32).toUInt32 &&& Int32.toUInt32 31)).toInt32) &&& (16383 : Int32)) u ih hE41 hE80 k
            refine ⟨rv, v9, hK, hle_u, ?_⟩
            intro p e s m args below meth c A H locs ls F hw hl
            obtain ⟨⟨hx, hb, hml, hown, hts⟩, hr, hlocks, hmn⟩ := id F
            refine lv_iload hx hb d_N_questionFrom_6 (lv_at hl 4 rfl) ?_
            refine lv_bipush (v := 10) hx hb d_N_questionFrom_8 (by decide) ?_
            refine lv_icmp_ge (tgt := 80) hx hb d_N_questionFrom_10 (by decide) (fun c9 => absurd c9 hc1) (fun _ => ?_)
            refine lv_iload hx hb d_N_questionFrom_13 (lv_at hl 3 rfl) ?_
            refine lv_iconst (v := 2) hx hb d_N_questionFrom_15 (by decide) ?_
            refine lv_icmp_lt (tgt := 80) hx hb d_N_questionFrom_16 (by decide) (fun c9 => absurd c9 hc2) (fun _ => ?_)
            refine lv_aload_n hx hb d_N_questionFrom_19 rfl (lv_at hl 0 rfl) ?_
            refine xr_get hx hb hts (xmu uws_N) hown hw h3 rfl (by decide) (hts _ (xm w_72)) (fun _ h9 => h9) d_N_questionFrom_20 ?_
            refine lv_iload hx hb d_N_questionFrom_23 (lv_at hl 3 rfl) ?_
            refine xr_iald hx hb hw h4 d_N_questionFrom_25 ?_
            refine lv_istore (lv' := [(6, .int z_10), (0, .ref x0), (2, .int x2), (3, .int x3), (4, .int x4), (5, .int x5)]) hx hb d_N_questionFrom_26 hl (by decide) rfl (fun ls hl => ?_)
            refine lv_iload hx hb d_N_questionFrom_28 (lv_at hl 0 rfl) ?_
            refine lv_bipush (v := 28) hx hb d_N_questionFrom_30 (by decide) ?_
            refine lv_iushr hx hb d_N_questionFrom_32 rfl ?_
            refine lv_istore (lv' := [(7, .int y5), (6, .int z_10), (0, .ref x0), (2, .int x2), (3, .int x3), (4, .int x4), (5, .int x5)]) hx hb d_N_questionFrom_33 hl (by decide) (by subst ey5; rfl) (fun ls hl => ?_)
            refine lv_iload hx hb d_N_questionFrom_35 (lv_at hl 6 rfl) ?_
            refine lv_iload_n hx hb d_N_questionFrom_37 rfl (lv_at hl 4 rfl) ?_
            refine lv_icmp_ne (tgt := 44) hx hb d_N_questionFrom_38 (by decide) (fun _ => ?_) (fun c9 => absurd c9 hc6)
            refine lv_iload_n hx hb d_N_questionFrom_44 rfl (lv_at hl 3 rfl) ?_
            refine lv_iload hx hb d_N_questionFrom_45 (lv_at hl 0 rfl) ?_
            refine lv_ishr hx hb d_N_questionFrom_47 ?_
            refine lv_iconst (v := 1) hx hb d_N_questionFrom_48 (by decide) ?_
            refine lv_iand hx hb d_N_questionFrom_49 ?_
            refine lv_iconst (v := 1) hx hb d_N_questionFrom_50 (by decide) ?_
            refine lv_icmp_ne (tgt := 63) hx hb d_N_questionFrom_51 (by decide) (fun _ => ?_) (fun c9 => absurd c9 hc7)
            refine lv_iload hx hb d_N_questionFrom_63 (lv_at hl 1 rfl) ?_
            refine lv_bipush (v := 14) hx hb d_N_questionFrom_65 (by decide) ?_
            refine lv_iushr hx hb d_N_questionFrom_67 rfl ?_
            refine lv_sipush (v := 16383) hx hb d_N_questionFrom_68 (by decide) ?_
            refine lv_iand hx hb d_N_questionFrom_71 ?_
            exact w9 p e s m args below meth c A H locs ls F hw (lv_sub hl [2, 3, 4, 6] rfl)
set_option maxRecDepth 100000 in
set_option maxHeartbeats 4000000 in
theorem c_N_questionFrom (l : Launch) (Z : XZ) (x0 : Nat) (x1 : Int32) (x2 : Int32) (x3 : Int32) (u : PS) (K : Int32 → PS → Prop) (k : p_N_questionFrom x0 x1 x2 x3 u K) : ∃ (rv : Option Value) (u1 : PS), (kI K) rv u1 ∧ XMet l Z i_N_questionFrom [.ref x0, .int x1, .int x2, .int x3] u rv u1 := by
  refine x_met (by decide) rfl (Nat.le_of_ble_eq_true rfl) ?_
  show XN l Z i_N_questionFrom u (kI K) u 0 [(0, .ref x0), (1, .int x1), (2, .int x2), (3, .int x3)] []
  unfold p_N_questionFrom at k
  obtain ⟨n1, k⟩ := k
  have hx4 : ∀ (y7_2 : Int32) (v3 : PS), (K y7_2 v3) → XN l Z i_N_questionFrom u (kI K) v3 41 [(7, .int y7_2)] [] := by
    intro y7_2 v3 k
    have hle_v3 : x_le v3 v3 := x_le.rf v3
    refine ⟨some (.int y7_2), v3, ⟨y7_2, rfl, k⟩, hle_v3, ?_⟩
    intro p e s m args below meth c A H locs ls F hw hl
    obtain ⟨⟨hx, hb, hml, hown, hts⟩, hr, hlocks, hmn⟩ := id F
    refine lv_iload hx hb d_N_questionFrom_41 (lv_at hl 0 rfl) ?_
    exact xr_iret F rfl hw d_N_questionFrom_43
  have hx6 : ∀ (v5 : PS), (K (-1 : Int32) v5) → XN l Z i_N_questionFrom u (kI K) v5 80 [] [] := by
    intro v5 k
    have hle_v5 : x_le v5 v5 := x_le.rf v5
    refine ⟨some (.int (-1)), v5, ⟨(-1 : Int32), rfl, k⟩, hle_v5, ?_⟩
    intro p e s m args below meth c A H locs ls F hw hl
    obtain ⟨⟨hx, hb, hml, hown, hts⟩, hr, hlocks, hmn⟩ := id F
    refine lv_iconst (v := (-1)) hx hb d_N_questionFrom_80 (by decide) ?_
    exact xr_iret F rfl hw d_N_questionFrom_81
  obtain ⟨rv, v9, hK, hle_u, w9⟩ := t_N_questionFrom_L6 l Z u x0 x2 x3 hx4 hx6 n1 x1 (0 : Int32) u k
  refine ⟨rv, v9, hK, hle_u, ?_⟩
  intro p e s m args below meth c A H locs ls F hw hl
  obtain ⟨⟨hx, hb, hml, hown, hts⟩, hr, hlocks, hmn⟩ := id F
  refine lv_iload_n hx hb d_N_questionFrom_0 rfl (lv_at hl 1 rfl) ?_
  refine lv_istore (lv' := [(4, .int x1), (0, .ref x0), (1, .int x1), (2, .int x2), (3, .int x3)]) hx hb d_N_questionFrom_1 hl (by decide) rfl (fun ls hl => ?_)
  refine lv_iconst (v := 0) hx hb d_N_questionFrom_3 (by decide) ?_
  refine lv_istore (lv' := [(5, .int 0), (4, .int x1), (0, .ref x0), (1, .int x1), (2, .int x2), (3, .int x3)]) hx hb d_N_questionFrom_4 hl (by decide) rfl (fun ls hl => ?_)
  exact w9 p e s m args below meth c A H locs ls F hw (lv_sub hl [2, 4, 5, 1, 0] rfl)
set_option maxRecDepth 100000 in
set_option maxHeartbeats 4000000 in
theorem t_N_takeThoseBefore_J124 (l : Launch) (Z : XZ) (u0 : PS) {Kv : Option Value → PS → Prop} {R : Int32 → Int32 → Int32 → PS → Prop} {E130 : Int32 → Int32 → PS → Prop} (x0 : Nat) (x1 : Int32) (x2 : Int32) (x3 : Nat) (x4 : Nat) (x5 : Int32) (x6 : Int32) (x7 : Int32) (x8 : Int32) (u : PS) (hR : ∀ (y6 : Int32) (y7 : Int32) (y8 : Int32) (v : PS), R y6 y7 y8 v → XN l Z i_N_takeThoseBefore u0 Kv v 30 [(0, .ref x0), (1, .int x1), (2, .int x2), (3, .ref x3), (4, .ref x4), (5, .int x5), (6, .int y6), (7, .int y7), (8, .int y8)] []) (hE130 : ∀ (y6 : Int32) (y7 : Int32) (v : PS), E130 y6 y7 v → XN l Z i_N_takeThoseBefore u0 Kv v 130 [(0, .ref x0), (1, .int x1), (6, .int y6), (7, .int y7)] []) (k : (p_N_takeThoseBefore_J124 R E130 x0 x1 x2 x3 x4 x5 x6 x7 x8 u)) : XN l Z i_N_takeThoseBefore u0 Kv u 124 [(0, .ref x0), (1, .int x1), (2, .int x2), (3, .ref x3), (4, .ref x4), (5, .int x5), (6, .int x6), (7, .int x7), (8, .int x8)] [] := by
  unfold p_N_takeThoseBefore_J124 at k
  obtain ⟨y1, ey1⟩ : ∃ y9 : Int32, y9 = x8 + 1 := ⟨_, rfl⟩
  have k := k y1 ey1
  obtain ⟨rv, v9, hK, hle_u, w9⟩ := hR x6 x7 y1 u k
  refine ⟨rv, v9, hK, hle_u, ?_⟩
  intro p e s m args below meth c A H locs ls F hw hl
  obtain ⟨⟨hx, hb, hml, hown, hts⟩, hr, hlocks, hmn⟩ := id F
  refine lv_iinc (v := y1) (lv' := [(8, .int y1), (0, .ref x0), (1, .int x1), (2, .int x2), (3, .ref x3), (4, .ref x4), (5, .int x5), (6, .int x6), (7, .int x7)]) hx hb d_N_takeThoseBefore_124 hl (k := 8) rfl (by subst ey1; rfl) (by decide) rfl (fun ls hl => ?_)
  refine lv_goto (tgt := 30) hx hb d_N_takeThoseBefore_127 (by decide) ?_
  exact w9 p e s m args below meth c A H locs ls F hw (lv_sub hl [1, 2, 3, 4, 5, 6, 7, 8, 0] rfl)
set_option maxRecDepth 100000 in
set_option maxHeartbeats 4000000 in
theorem t_N_takeThoseBefore_J105 (l : Launch) (Z : XZ) (u0 : PS) {Kv : Option Value → PS → Prop} {R : Int32 → Int32 → Int32 → PS → Prop} {E130 : Int32 → Int32 → PS → Prop} (x0 : Nat) (x1 : Int32) (x2 : Int32) (x3 : Nat) (x4 : Nat) (x5 : Int32) (x6 : Int32) (x7 : Int32) (x8 : Int32) (x9 : Int32) (u : PS) (hR : ∀ (y6 : Int32) (y7 : Int32) (y8 : Int32) (v : PS), R y6 y7 y8 v → XN l Z i_N_takeThoseBefore u0 Kv v 30 [(0, .ref x0), (1, .int x1), (2, .int x2), (3, .ref x3), (4, .ref x4), (5, .int x5), (6, .int y6), (7, .int y7), (8, .int y8)] []) (hE130 : ∀ (y6 : Int32) (y7 : Int32) (v : PS), E130 y6 y7 v → XN l Z i_N_takeThoseBefore u0 Kv v 130 [(0, .ref x0), (1, .int x1), (6, .int y6), (7, .int y7)] []) (k : (p_N_takeThoseBefore_J105 R E130 x0 x1 x2 x3 x4 x5 x6 x7 x8 x9 u)) : XN l Z i_N_takeThoseBefore u0 Kv u 105 [(0, .ref x0), (1, .int x1), (2, .int x2), (3, .ref x3), (4, .ref x4), (5, .int x5), (6, .int x6), (7, .int x7), (8, .int x8), (9, .int x9)] [] := by
  unfold p_N_takeThoseBefore_J105 at k
  obtain ⟨h2, k⟩ := k
  obtain ⟨_, u_32, ⟨rfl, k⟩, hM1⟩ := c_N_unlink l Z x0 x9 u _ k
  obtain ⟨z_33, h3, k⟩ := k
  obtain ⟨u_34, h4, k⟩ := k
  obtain ⟨rv, v9, hK, hle_u_34, w9⟩ := t_N_takeThoseBefore_J124 l Z u0 x0 x1 x2 x3 x4 x5 x6 x9 x8 u_34 hR hE130 k
  have hle_u_32 : x_le u_32 v9 := (h4.le).tr hle_u_34
  have hle_u : x_le u v9 := (hM1.1).tr hle_u_32
  refine ⟨rv, v9, hK, hle_u, ?_⟩
  intro p e s m args below meth c A H locs ls F hw hl
  obtain ⟨⟨hx, hb, hml, hown, hts⟩, hr, hlocks, hmn⟩ := id F
  refine lv_aload_n hx hb d_N_takeThoseBefore_105 rfl (lv_at hl 0 rfl) ?_
  refine lv_iload hx hb d_N_takeThoseBefore_106 (lv_at hl 9 rfl) ?_
  refine xr_cV (As := [.int x9]) (rest := []) ⟨hx, hb, hml, hown, hts⟩ hw hM1 hle_u_32 (fun _ _ => ⟨callB_of 1 hts (xgood w_387) rfl rfl rfl (hts _ (xm w_4)) (hts _ (xm w_384)) ⟨by decide, by decide, by decide +kernel⟩ ⟨Nat.le_of_ble_eq_true rfl, Nat.le_of_ble_eq_true rfl⟩, (hts _ (xm w_386)), (hts _ (xm wp_17))⟩) (qc := (R_N, F_N, 13)) rfl rfl h2 rfl hl.1 rfl (Nat.le_of_ble_eq_true rfl) d_N_takeThoseBefore_108 (fun H locs hw => ?_)
  refine W.eq (g2 := F0 m 111 ls []) rfl ?_
  refine lv_aload_n hx hb d_N_takeThoseBefore_111 rfl (lv_at hl 0 rfl) ?_
  refine xr_get hx hb hts (xmu uws_N) hown hw h3 rfl (by decide) (hts _ (xm w_81)) (fun _ h9 => h9) d_N_takeThoseBefore_112 ?_
  refine lv_iload hx hb d_N_takeThoseBefore_115 (lv_at hl 9 rfl) ?_
  refine lv_iload hx hb d_N_takeThoseBefore_117 (lv_at hl 7 rfl) ?_
  refine xr_iast hx hb hw h4 d_N_takeThoseBefore_119 (fun H locs hw => ?_)
  refine lv_iload hx hb d_N_takeThoseBefore_120 (lv_at hl 9 rfl) ?_
  refine lv_istore (lv' := [(7, .int x9), (0, .ref x0), (1, .int x1), (2, .int x2), (3, .ref x3), (4, .ref x4), (5, .int x5), (6, .int x6), (8, .int x8), (9, .int x9)]) hx hb d_N_takeThoseBefore_122 hl (by decide) rfl (fun ls hl => ?_)
  exact w9 p e s m args below meth c A H locs ls F hw (lv_sub hl [1, 2, 3, 4, 5, 6, 7, 0, 8] rfl)
set_option maxRecDepth 100000 in
set_option maxHeartbeats 4000000 in
theorem t_N_takeThoseBefore_L30 (l : Launch) (Z : XZ) (u0 : PS) {Kv : Option Value → PS → Prop} {E130 : Int32 → Int32 → PS → Prop} (x0 : Nat) (x1 : Int32) (x2 : Int32) (x3 : Nat) (x4 : Nat) (x5 : Int32) (hE130 : ∀ (y6 : Int32) (y7 : Int32) (v : PS), E130 y6 y7 v → XN l Z i_N_takeThoseBefore u0 Kv v 130 [(0, .ref x0), (1, .int x1), (6, .int y6), (7, .int y7)] []) : ∀ (n : Nat) (x6 : Int32) (x7 : Int32) (x8 : Int32) (u : PS), p_N_takeThoseBefore_L30 x0 x1 x2 x3 x4 x5 E130 n x6 x7 x8 u → XN l Z i_N_takeThoseBefore u0 Kv u 30 [(0, .ref x0), (1, .int x1), (2, .int x2), (3, .ref x3), (4, .ref x4), (5, .int x5), (6, .int x6), (7, .int x7), (8, .int x8)] [] := by
  intro n
  induction n with
  | zero => intro x6 x7 x8 u k; exact False.elim k
  | succ n ih =>
    intro x6 x7 x8 u k
    rw [p_N_takeThoseBefore_L30] at k
    by_cases hc1 : x5 ≤ x8
    · have k := k.1 hc1
      obtain ⟨rv, v9, hK, hle_u, w9⟩ := hE130 x6 x7 u k
      refine ⟨rv, v9, hK, hle_u, ?_⟩
      intro p e s m args below meth c A H locs ls F hw hl
      obtain ⟨⟨hx, hb, hml, hown, hts⟩, hr, hlocks, hmn⟩ := id F
      refine lv_iload hx hb d_N_takeThoseBefore_30 (lv_at hl 8 rfl) ?_
      refine lv_iload hx hb d_N_takeThoseBefore_32 (lv_at hl 5 rfl) ?_
      refine lv_icmp_ge (tgt := 130) hx hb d_N_takeThoseBefore_34 (by decide) (fun _ => ?_) (fun c9 => absurd hc1 c9)
      exact w9 p e s m args below meth c A H locs ls F hw (lv_sub hl [0, 1, 6, 7] rfl)
    · have k := k.2 hc1
      obtain ⟨z_29, h2, k⟩ := k
      obtain ⟨z_30, h3, k⟩ := k
      obtain ⟨z_31, h4, k⟩ := k
      by_cases hc5 : ((z_31.toUInt32 >>> ((28 : Int32).toUInt32 &&& Int32.toUInt32 31)).toInt32) = x2
      · have k := k.1 hc5
        obtain ⟨rv, v9, hK, hle_u, w9⟩ := t_N_takeThoseBefore_J105 l Z u0 x0 x1 x2 x3 x4 x5 x6 x7 x8 z_29 u ih hE130 k
        refine ⟨rv, v9, hK, hle_u, ?_⟩
        intro p e s m args below meth c A H locs ls F hw hl
        obtain ⟨⟨hx, hb, hml, hown, hts⟩, hr, hlocks, hmn⟩ := id F
        refine lv_iload hx hb d_N_takeThoseBefore_30 (lv_at hl 8 rfl) ?_
        refine lv_iload hx hb d_N_takeThoseBefore_32 (lv_at hl 5 rfl) ?_
        refine lv_icmp_ge (tgt := 130) hx hb d_N_takeThoseBefore_34 (by decide) (fun c9 => absurd c9 hc1) (fun _ => ?_)
        refine lv_aload hx hb d_N_takeThoseBefore_37 (lv_at hl 4 rfl) ?_
        refine lv_iload hx hb d_N_takeThoseBefore_39 (lv_at hl 8 rfl) ?_
        refine xr_iald hx hb hw h2 d_N_takeThoseBefore_41 ?_
        refine lv_istore (lv' := [(9, .int z_29), (0, .ref x0), (1, .int x1), (2, .int x2), (3, .ref x3), (4, .ref x4), (5, .int x5), (6, .int x6), (7, .int x7), (8, .int x8)]) hx hb d_N_takeThoseBefore_42 hl (by decide) rfl (fun ls hl => ?_)
        refine lv_aload_n hx hb d_N_takeThoseBefore_44 rfl (lv_at hl 4 rfl) ?_
        refine lv_iload hx hb d_N_takeThoseBefore_45 (lv_at hl 0 rfl) ?_
        refine xr_iald hx hb hw h3 d_N_takeThoseBefore_47 ?_
        refine lv_istore (lv' := [(10, .int z_30), (9, .int z_29), (0, .ref x0), (1, .int x1), (2, .int x2), (3, .ref x3), (4, .ref x4), (5, .int x5), (6, .int x6), (7, .int x7), (8, .int x8)]) hx hb d_N_takeThoseBefore_48 hl (by decide) rfl (fun ls hl => ?_)
        refine lv_aload_n hx hb d_N_takeThoseBefore_50 rfl (lv_at hl 5 rfl) ?_
        refine lv_iload hx hb d_N_takeThoseBefore_51 (lv_at hl 0 rfl) ?_
        refine lv_sipush (v := 16383) hx hb d_N_takeThoseBefore_53 (by decide) ?_
        refine lv_iand hx hb d_N_takeThoseBefore_56 ?_
        refine xr_iald hx hb hw h4 d_N_takeThoseBefore_57 ?_
        refine lv_bipush (v := 28) hx hb d_N_takeThoseBefore_58 (by decide) ?_
        refine lv_iushr hx hb d_N_takeThoseBefore_60 rfl ?_
        refine lv_iload_n hx hb d_N_takeThoseBefore_61 rfl (lv_at hl 4 rfl) ?_
        refine lv_icmp_eq (tgt := 105) hx hb d_N_takeThoseBefore_62 (by decide) (fun _ => ?_) (fun c9 => absurd hc5 c9)
        exact w9 p e s m args below meth c A H locs ls F hw (lv_sub hl [2, 3, 4, 5, 6, 7, 8, 9, 10, 1] rfl)
      · have k := k.2 hc5
        obtain ⟨z_35, h6, k⟩ := k
        by_cases hc7 : ((z_35.toUInt32 >>> ((28 : Int32).toUInt32 &&& Int32.toUInt32 31)).toInt32) = x2
        · have k := k.1 hc7
          obtain ⟨rv, v9, hK, hle_u, w9⟩ := t_N_takeThoseBefore_J105 l Z u0 x0 x1 x2 x3 x4 x5 x6 x7 x8 z_29 u ih hE130 k
          refine ⟨rv, v9, hK, hle_u, ?_⟩
          intro p e s m args below meth c A H locs ls F hw hl
          obtain ⟨⟨hx, hb, hml, hown, hts⟩, hr, hlocks, hmn⟩ := id F
          refine lv_iload hx hb d_N_takeThoseBefore_30 (lv_at hl 8 rfl) ?_
          refine lv_iload hx hb d_N_takeThoseBefore_32 (lv_at hl 5 rfl) ?_
          refine lv_icmp_ge (tgt := 130) hx hb d_N_takeThoseBefore_34 (by decide) (fun c9 => absurd c9 hc1) (fun _ => ?_)
          refine lv_aload hx hb d_N_takeThoseBefore_37 (lv_at hl 4 rfl) ?_
          refine lv_iload hx hb d_N_takeThoseBefore_39 (lv_at hl 8 rfl) ?_
          refine xr_iald hx hb hw h2 d_N_takeThoseBefore_41 ?_
          refine lv_istore (lv' := [(9, .int z_29), (0, .ref x0), (1, .int x1), (2, .int x2), (3, .ref x3), (4, .ref x4), (5, .int x5), (6, .int x6), (7, .int x7), (8, .int x8)]) hx hb d_N_takeThoseBefore_42 hl (by decide) rfl (fun ls hl => ?_)
          refine lv_aload_n hx hb d_N_takeThoseBefore_44 rfl (lv_at hl 4 rfl) ?_
          refine lv_iload hx hb d_N_takeThoseBefore_45 (lv_at hl 0 rfl) ?_
          refine xr_iald hx hb hw h3 d_N_takeThoseBefore_47 ?_
          refine lv_istore (lv' := [(10, .int z_30), (9, .int z_29), (0, .ref x0), (1, .int x1), (2, .int x2), (3, .ref x3), (4, .ref x4), (5, .int x5), (6, .int x6), (7, .int x7), (8, .int x8)]) hx hb d_N_takeThoseBefore_48 hl (by decide) rfl (fun ls hl => ?_)
          refine lv_aload_n hx hb d_N_takeThoseBefore_50 rfl (lv_at hl 5 rfl) ?_
          refine lv_iload hx hb d_N_takeThoseBefore_51 (lv_at hl 0 rfl) ?_
          refine lv_sipush (v := 16383) hx hb d_N_takeThoseBefore_53 (by decide) ?_
          refine lv_iand hx hb d_N_takeThoseBefore_56 ?_
          refine xr_iald hx hb hw h4 d_N_takeThoseBefore_57 ?_
          refine lv_bipush (v := 28) hx hb d_N_takeThoseBefore_58 (by decide) ?_
          refine lv_iushr hx hb d_N_takeThoseBefore_60 rfl ?_
          refine lv_iload_n hx hb d_N_takeThoseBefore_61 rfl (lv_at hl 4 rfl) ?_
          refine lv_icmp_eq (tgt := 105) hx hb d_N_takeThoseBefore_62 (by decide) (fun c9 => absurd c9 hc5) (fun _ => ?_)
          refine lv_aload_n hx hb d_N_takeThoseBefore_65 rfl (lv_at hl 5 rfl) ?_
          refine lv_iload hx hb d_N_takeThoseBefore_66 (lv_at hl 0 rfl) ?_
          refine lv_bipush (v := 14) hx hb d_N_takeThoseBefore_68 (by decide) ?_
          refine lv_iushr hx hb d_N_takeThoseBefore_70 rfl ?_
          refine lv_sipush (v := 16383) hx hb d_N_takeThoseBefore_71 (by decide) ?_
          refine lv_iand hx hb d_N_takeThoseBefore_74 ?_
          refine xr_iald hx hb hw h6 d_N_takeThoseBefore_75 ?_
          refine lv_bipush (v := 28) hx hb d_N_takeThoseBefore_76 (by decide) ?_
          refine lv_iushr hx hb d_N_takeThoseBefore_78 rfl ?_
          refine lv_iload_n hx hb d_N_takeThoseBefore_79 rfl (lv_at hl 4 rfl) ?_
          refine lv_icmp_eq (tgt := 105) hx hb d_N_takeThoseBefore_80 (by decide) (fun _ => ?_) (fun c9 => absurd hc7 c9)
          exact w9 p e s m args below meth c A H locs ls F hw (lv_sub hl [2, 3, 4, 5, 6, 7, 8, 9, 10, 1] rfl)
        · have k := k.2 hc7
          obtain ⟨u_36, h8, k⟩ := k
          obtain ⟨z_37, h9, k⟩ := k
          obtain ⟨u_38, h10, k⟩ := k
          obtain ⟨y11, ey11⟩ : ∃ y9 : Int32, y9 = x6 + 1 := ⟨_, rfl⟩
          have k := k y11 ey11
          obtain ⟨rv, v9, hK, hle_u_38, w9⟩ := t_N_takeThoseBefore_J124 l Z u0 x0 x1 x2 x3 x4 x5 y11 x7 x8 u_38 ih hE130 k
          have hle_u_36 : x_le u_36 v9 := (h10.le).tr hle_u_38
          have hle_u : x_le u v9 := (h8.le).tr hle_u_36
          refine ⟨rv, v9, hK, hle_u, ?_⟩
          intro p e s m args below meth c A H locs ls F hw hl
          obtain ⟨⟨hx, hb, hml, hown, hts⟩, hr, hlocks, hmn⟩ := id F
          refine lv_iload hx hb d_N_takeThoseBefore_30 (lv_at hl 8 rfl) ?_
          refine lv_iload hx hb d_N_takeThoseBefore_32 (lv_at hl 5 rfl) ?_
          refine lv_icmp_ge (tgt := 130) hx hb d_N_takeThoseBefore_34 (by decide) (fun c9 => absurd c9 hc1) (fun _ => ?_)
          refine lv_aload hx hb d_N_takeThoseBefore_37 (lv_at hl 4 rfl) ?_
          refine lv_iload hx hb d_N_takeThoseBefore_39 (lv_at hl 8 rfl) ?_
          refine xr_iald hx hb hw h2 d_N_takeThoseBefore_41 ?_
          refine lv_istore (lv' := [(9, .int z_29), (0, .ref x0), (1, .int x1), (2, .int x2), (3, .ref x3), (4, .ref x4), (5, .int x5), (6, .int x6), (7, .int x7), (8, .int x8)]) hx hb d_N_takeThoseBefore_42 hl (by decide) rfl (fun ls hl => ?_)
          refine lv_aload_n hx hb d_N_takeThoseBefore_44 rfl (lv_at hl 4 rfl) ?_
          refine lv_iload hx hb d_N_takeThoseBefore_45 (lv_at hl 0 rfl) ?_
          refine xr_iald hx hb hw h3 d_N_takeThoseBefore_47 ?_
          refine lv_istore (lv' := [(10, .int z_30), (9, .int z_29), (0, .ref x0), (1, .int x1), (2, .int x2), (3, .ref x3), (4, .ref x4), (5, .int x5), (6, .int x6), (7, .int x7), (8, .int x8)]) hx hb d_N_takeThoseBefore_48 hl (by decide) rfl (fun ls hl => ?_)
          refine lv_aload_n hx hb d_N_takeThoseBefore_50 rfl (lv_at hl 5 rfl) ?_
          refine lv_iload hx hb d_N_takeThoseBefore_51 (lv_at hl 0 rfl) ?_
          refine lv_sipush (v := 16383) hx hb d_N_takeThoseBefore_53 (by decide) ?_
          refine lv_iand hx hb d_N_takeThoseBefore_56 ?_
          refine xr_iald hx hb hw h4 d_N_takeThoseBefore_57 ?_
          refine lv_bipush (v := 28) hx hb d_N_takeThoseBefore_58 (by decide) ?_
          refine lv_iushr hx hb d_N_takeThoseBefore_60 rfl ?_
          refine lv_iload_n hx hb d_N_takeThoseBefore_61 rfl (lv_at hl 4 rfl) ?_
          refine lv_icmp_eq (tgt := 105) hx hb d_N_takeThoseBefore_62 (by decide) (fun c9 => absurd c9 hc5) (fun _ => ?_)
          refine lv_aload_n hx hb d_N_takeThoseBefore_65 rfl (lv_at hl 5 rfl) ?_
          refine lv_iload hx hb d_N_takeThoseBefore_66 (lv_at hl 0 rfl) ?_
          refine lv_bipush (v := 14) hx hb d_N_takeThoseBefore_68 (by decide) ?_
          refine lv_iushr hx hb d_N_takeThoseBefore_70 rfl ?_
          refine lv_sipush (v := 16383) hx hb d_N_takeThoseBefore_71 (by decide) ?_
          refine lv_iand hx hb d_N_takeThoseBefore_74 ?_
          refine xr_iald hx hb hw h6 d_N_takeThoseBefore_75 ?_
          refine lv_bipush (v := 28) hx hb d_N_takeThoseBefore_76 (by decide) ?_
          refine lv_iushr hx hb d_N_takeThoseBefore_78 rfl ?_
          refine lv_iload_n hx hb d_N_takeThoseBefore_79 rfl (lv_at hl 4 rfl) ?_
          refine lv_icmp_eq (tgt := 105) hx hb d_N_takeThoseBefore_80 (by decide) (fun c9 => absurd c9 hc7) (fun _ => ?_)
          refine lv_aload hx hb d_N_takeThoseBefore_83 (lv_at hl 6 rfl) ?_
          refine lv_iload hx hb d_N_takeThoseBefore_85 (lv_at hl 8 rfl) ?_
          refine lv_iload hx hb d_N_takeThoseBefore_87 (lv_at hl 1 rfl) ?_
          refine xr_iast hx hb hw h8 d_N_takeThoseBefore_89 (fun H locs hw => ?_)
          refine lv_aload_n hx hb d_N_takeThoseBefore_90 rfl (lv_at hl 2 rfl) ?_
          refine xr_get hx hb hts (xmu uws_N) hown hw h9 rfl (by decide) (hts _ (xm w_80)) (fun _ h9 => h9) d_N_takeThoseBefore_91 ?_
          refine lv_iload hx hb d_N_takeThoseBefore_94 (lv_at hl 1 rfl) ?_
          refine lv_iload hx hb d_N_takeThoseBefore_96 (lv_at hl 8 rfl) ?_
          refine xr_iast hx hb hw h10 d_N_takeThoseBefore_98 (fun H locs hw => ?_)
          refine lv_iinc (v := y11) (lv' := [(6, .int y11), (10, .int z_30), (9, .int z_29), (0, .ref x0), (1, .int x1), (2, .int x2), (3, .ref x3), (4, .ref x4), (5, .int x5), (7, .int x7), (8, .int x8)]) hx hb d_N_takeThoseBefore_99 hl (k := 8) rfl (by subst ey11; rfl) (by decide) rfl (fun ls hl => ?_)
          refine lv_goto (tgt := 124) hx hb d_N_takeThoseBefore_102 (by decide) ?_
          exact w9 p e s m args below meth c A H locs ls F hw (lv_sub hl [3, 4, 5, 6, 7, 8, 0, 9, 10] rfl)
set_option maxRecDepth 100000 in
set_option maxHeartbeats 4000000 in
theorem t_N_takeThoseBefore_J130 (l : Launch) (Z : XZ) (u0 : PS) {K : Int32 → PS → Prop} (x0 : Nat) (x1 : Int32) (x6 : Int32) (x7 : Int32) (u : PS) (k : (p_N_takeThoseBefore_J130 K x0 x1 x6 x7 u)) : XN l Z i_N_takeThoseBefore u0 (kI K) u 130 [(0, .ref x0), (1, .int x1), (6, .int x6), (7, .int x7)] [] := by
  unfold p_N_takeThoseBefore_J130 at k
  obtain ⟨z_39, h1, k⟩ := k
  obtain ⟨u_40, h2, k⟩ := k
  have hle_u_40 : x_le u_40 u_40 := x_le.rf u_40
  have hle_u : x_le u u_40 := (h2.le).tr hle_u_40
  refine ⟨some (.int x7), u_40, ⟨x7, rfl, k⟩, hle_u, ?_⟩
  intro p e s m args below meth c A H locs ls F hw hl
  obtain ⟨⟨hx, hb, hml, hown, hts⟩, hr, hlocks, hmn⟩ := id F
  refine lv_aload_n hx hb d_N_takeThoseBefore_130 rfl (lv_at hl 0 rfl) ?_
  refine xr_get hx hb hts (xmu uws_N) hown hw h1 rfl (by decide) (hts _ (xm w_78)) (fun _ h9 => h9) d_N_takeThoseBefore_131 ?_
  refine lv_iload_n hx hb d_N_takeThoseBefore_134 rfl (lv_at hl 1 rfl) ?_
  refine lv_iload hx hb d_N_takeThoseBefore_135 (lv_at hl 2 rfl) ?_
  refine xr_iast hx hb hw h2 d_N_takeThoseBefore_137 (fun H locs hw => ?_)
  refine lv_iload hx hb d_N_takeThoseBefore_138 (lv_at hl 3 rfl) ?_
  exact xr_iret F rfl hw d_N_takeThoseBefore_140
set_option maxRecDepth 100000 in
set_option maxHeartbeats 4000000 in
theorem c_N_takeThoseBefore (l : Launch) (Z : XZ) (x0 : Nat) (x1 : Int32) (x2 : Int32) (u : PS) (K : Int32 → PS → Prop) (k : p_N_takeThoseBefore x0 x1 x2 u K) : ∃ (rv : Option Value) (u1 : PS), (kI K) rv u1 ∧ XMet l Z i_N_takeThoseBefore [.ref x0, .int x1, .int x2] u rv u1 := by
  refine x_met (by decide) rfl (Nat.le_of_ble_eq_true rfl) ?_
  show XN l Z i_N_takeThoseBefore u (kI K) u 0 [(0, .ref x0), (1, .int x1), (2, .int x2)] []
  unfold p_N_takeThoseBefore at k
  obtain ⟨z_24, h1, k⟩ := k
  obtain ⟨z_25, h2, k⟩ := k
  obtain ⟨z_26, h3, k⟩ := k
  obtain ⟨z_27, h4, k⟩ := k
  obtain ⟨z_28, h5, k⟩ := k
  obtain ⟨n6, k⟩ := k
  have hx10 : ∀ (y6_7 : Int32) (y7_8 : Int32) (v9 : PS), (p_N_takeThoseBefore_J130 K x0 x1 y6_7 y7_8 v9) → XN l Z i_N_takeThoseBefore u (kI K) v9 130 [(0, .ref x0), (1, .int x1), (6, .int y6_7), (7, .int y7_8)] [] := by
    intro y6_7 y7_8 v9 k
    obtain ⟨rv, v9, hK, hle_v9, w9⟩ := t_N_takeThoseBefore_J130 l Z u x0 x1 y6_7 y7_8 v9 k
    refine ⟨rv, v9, hK, hle_v9, ?_⟩
    intro p e s m args below meth c A H locs ls F hw hl
    obtain ⟨⟨hx, hb, hml, hown, hts⟩, hr, hlocks, hmn⟩ := id F
    exact w9 p e s m args below meth c A H locs ls F hw (lv_sub hl [0, 1, 2, 3] rfl)
  obtain ⟨rv, v9, hK, hle_u, w9⟩ := t_N_takeThoseBefore_L30 l Z u x0 x1 x2 z_24 z_26 z_28 hx10 n6 (0 : Int32) (0 : Int32) (0 : Int32) u k
  refine ⟨rv, v9, hK, hle_u, ?_⟩
  intro p e s m args below meth c A H locs ls F hw hl
  obtain ⟨⟨hx, hb, hml, hown, hts⟩, hr, hlocks, hmn⟩ := id F
  refine lv_aload_n hx hb d_N_takeThoseBefore_0 rfl (lv_at hl 0 rfl) ?_
  refine xr_get hx hb hts (xmu uws_N) hown hw h1 rfl (by decide) (hts _ (xm w_72)) (fun _ h9 => h9) d_N_takeThoseBefore_1 ?_
  refine lv_astore_n (lv' := [(3, .ref z_24), (0, .ref x0), (1, .int x1), (2, .int x2)]) hx hb d_N_takeThoseBefore_4 rfl hl (by decide) rfl (fun ls hl => ?_)
  refine lv_aload_n hx hb d_N_takeThoseBefore_5 rfl (lv_at hl 1 rfl) ?_
  refine xr_get hx hb hts (xmu uws_N) hown hw h2 rfl (by decide) (hts _ (xm w_76)) (fun _ h9 => h9) d_N_takeThoseBefore_6 ?_
  refine lv_iload_n hx hb d_N_takeThoseBefore_9 rfl (lv_at hl 2 rfl) ?_
  refine xr_aald hx hb hw rfl h3 d_N_takeThoseBefore_10 ?_
  refine lv_astore (lv' := [(4, .ref z_26), (3, .ref z_24), (0, .ref x0), (1, .int x1), (2, .int x2)]) hx hb d_N_takeThoseBefore_11 hl (by decide) rfl (fun ls hl => ?_)
  refine lv_aload_n hx hb d_N_takeThoseBefore_13 rfl (lv_at hl 2 rfl) ?_
  refine xr_get hx hb hts (xmu uws_N) hown hw h4 rfl (by decide) (hts _ (xm w_78)) (fun _ h9 => h9) d_N_takeThoseBefore_14 ?_
  refine lv_iload_n hx hb d_N_takeThoseBefore_17 rfl (lv_at hl 3 rfl) ?_
  refine xr_iald hx hb hw h5 d_N_takeThoseBefore_18 ?_
  refine lv_istore (lv' := [(5, .int z_28), (4, .ref z_26), (3, .ref z_24), (0, .ref x0), (1, .int x1), (2, .int x2)]) hx hb d_N_takeThoseBefore_19 hl (by decide) rfl (fun ls hl => ?_)
  refine lv_iconst (v := 0) hx hb d_N_takeThoseBefore_21 (by decide) ?_
  refine lv_istore (lv' := [(6, .int 0), (5, .int z_28), (4, .ref z_26), (3, .ref z_24), (0, .ref x0), (1, .int x1), (2, .int x2)]) hx hb d_N_takeThoseBefore_22 hl (by decide) rfl (fun ls hl => ?_)
  refine lv_iconst (v := 0) hx hb d_N_takeThoseBefore_24 (by decide) ?_
  refine lv_istore (lv' := [(7, .int 0), (6, .int 0), (5, .int z_28), (4, .ref z_26), (3, .ref z_24), (0, .ref x0), (1, .int x1), (2, .int x2)]) hx hb d_N_takeThoseBefore_25 hl (by decide) rfl (fun ls hl => ?_)
  refine lv_iconst (v := 0) hx hb d_N_takeThoseBefore_27 (by decide) ?_
  refine lv_istore (lv' := [(8, .int 0), (7, .int 0), (6, .int 0), (5, .int z_28), (4, .ref z_26), (3, .ref z_24), (0, .ref x0), (1, .int x1), (2, .int x2)]) hx hb d_N_takeThoseBefore_28 hl (by decide) rfl (fun ls hl => ?_)
  exact w9 p e s m args below meth c A H locs ls F hw (lv_sub hl [6, 7, 8, 5, 4, 3, 2, 1, 0] rfl)
set_option maxRecDepth 100000 in
set_option maxHeartbeats 4000000 in
theorem t_N_turn_J281 (l : Launch) (Z : XZ) (u0 : PS) {K : PS → Prop} (x0 : Nat) (x5 : Nat) (x7 : Int32) (x9 : Int32) (u : PS) (k : (p_N_turn_J281 K x0 x5 x7 x9 u)) : XN l Z i_N_turn u0 (kV K) u 281 [(0, .ref x0), (5, .ref x5), (7, .int x7), (9, .int x9)] [] := by
  unfold p_N_turn_J281 at k
  obtain ⟨z_69, h1, k⟩ := k
  obtain ⟨u_70, h2, k⟩ := k
  obtain ⟨z_71, h3, k⟩ := k
  by_cases hc4 : z_71 = 0
  · have k := k.2 hc4
    obtain ⟨z_72, h5, k⟩ := k
    obtain ⟨u_73, h6, k⟩ := k
    obtain ⟨z_74, h7, k⟩ := k
    obtain ⟨u_75, h8, k⟩ := k
    obtain ⟨h10, k⟩ := k
    obtain ⟨_, u_76, ⟨rfl, k⟩, hM9⟩ := c_N_forget l Z x0 x7 u_75 _ k
    have hle_u_76 : x_le u_76 u_76 := x_le.rf u_76
    have hle_u_75 : x_le u_75 u_76 := (hM9.1).tr hle_u_76
    have hle_u_73 : x_le u_73 u_76 := (h8.le).tr hle_u_75
    have hle_u_70 : x_le u_70 u_76 := (h6.le).tr hle_u_73
    have hle_u : x_le u u_76 := (h2.le).tr hle_u_70
    refine ⟨none, u_76, ⟨rfl, k⟩, hle_u, ?_⟩
    intro p e s m args below meth c A H locs ls F hw hl
    obtain ⟨⟨hx, hb, hml, hown, hts⟩, hr, hlocks, hmn⟩ := id F
    refine lv_aload hx hb d_N_turn_281 (lv_at hl 1 rfl) ?_
    refine lv_iload hx hb d_N_turn_283 (lv_at hl 2 rfl) ?_
    refine lv_dup2_11 hx hb d_N_turn_285 rfl rfl ?_
    refine xr_iald hx hb hw h1 d_N_turn_286 ?_
    refine lv_iconst (v := 1) hx hb d_N_turn_287 (by decide) ?_
    refine lv_isub hx hb d_N_turn_288 ?_
    refine xr_iast hx hb hw h2 d_N_turn_289 (fun H locs hw => ?_)
    refine lv_aload hx hb d_N_turn_290 (lv_at hl 1 rfl) ?_
    refine lv_iload hx hb d_N_turn_292 (lv_at hl 2 rfl) ?_
    refine xr_iald hx hb hw h3 d_N_turn_294 ?_
    refine lv_if_ne (tgt := 333) hx hb d_N_turn_295 (by decide) (fun c9 => absurd hc4 c9) (fun _ => ?_)
    refine lv_aload hx hb d_N_turn_298 (lv_at hl 1 rfl) ?_
    refine lv_iload hx hb d_N_turn_300 (lv_at hl 3 rfl) ?_
    refine lv_bipush (v := 14) hx hb d_N_turn_302 (by decide) ?_
    refine lv_iushr hx hb d_N_turn_304 rfl ?_
    refine lv_sipush (v := 16383) hx hb d_N_turn_305 (by decide) ?_
    refine lv_iand hx hb d_N_turn_308 ?_
    refine lv_dup2_11 hx hb d_N_turn_309 rfl rfl ?_
    refine xr_iald hx hb hw h5 d_N_turn_310 ?_
    refine lv_iconst (v := 1) hx hb d_N_turn_311 (by decide) ?_
    refine lv_isub hx hb d_N_turn_312 ?_
    refine xr_iast hx hb hw h6 d_N_turn_313 (fun H locs hw => ?_)
    refine lv_aload hx hb d_N_turn_314 (lv_at hl 1 rfl) ?_
    refine lv_iload hx hb d_N_turn_316 (lv_at hl 3 rfl) ?_
    refine lv_sipush (v := 16383) hx hb d_N_turn_318 (by decide) ?_
    refine lv_iand hx hb d_N_turn_321 ?_
    refine lv_dup2_11 hx hb d_N_turn_322 rfl rfl ?_
    refine xr_iald hx hb hw h7 d_N_turn_323 ?_
    refine lv_iconst (v := 1) hx hb d_N_turn_324 (by decide) ?_
    refine lv_isub hx hb d_N_turn_325 ?_
    refine xr_iast hx hb hw h8 d_N_turn_326 (fun H locs hw => ?_)
    refine lv_aload_n hx hb d_N_turn_327 rfl (lv_at hl 0 rfl) ?_
    refine lv_iload hx hb d_N_turn_328 (lv_at hl 2 rfl) ?_
    refine xr_cV (As := [.int x7]) (rest := []) ⟨hx, hb, hml, hown, hts⟩ hw hM9 hle_u_76 (fun _ _ => ⟨callB_of 1 hts (xgood w_383) rfl rfl rfl (hts _ (xm w_4)) (hts _ (xm w_380)) ⟨by decide, by decide, by decide +kernel⟩ ⟨Nat.le_of_ble_eq_true rfl, Nat.le_of_ble_eq_true rfl⟩, (hts _ (xm w_382)), (hts _ (xm wp_16))⟩) (qc := (R_N, F_N, 13)) rfl rfl h10 rfl hl.1 rfl (Nat.le_of_ble_eq_true rfl) d_N_turn_330 (fun H locs hw => ?_)
    refine W.eq (g2 := F0 m 333 ls []) rfl ?_
    exact xr_vret F rfl hw d_N_turn_333
  · have k := k.1 hc4
    have hle_u_70 : x_le u_70 u_70 := x_le.rf u_70
    have hle_u : x_le u u_70 := (h2.le).tr hle_u_70
    refine ⟨none, u_70, ⟨rfl, k⟩, hle_u, ?_⟩
    intro p e s m args below meth c A H locs ls F hw hl
    obtain ⟨⟨hx, hb, hml, hown, hts⟩, hr, hlocks, hmn⟩ := id F
    refine lv_aload hx hb d_N_turn_281 (lv_at hl 1 rfl) ?_
    refine lv_iload hx hb d_N_turn_283 (lv_at hl 2 rfl) ?_
    refine lv_dup2_11 hx hb d_N_turn_285 rfl rfl ?_
    refine xr_iald hx hb hw h1 d_N_turn_286 ?_
    refine lv_iconst (v := 1) hx hb d_N_turn_287 (by decide) ?_
    refine lv_isub hx hb d_N_turn_288 ?_
    refine xr_iast hx hb hw h2 d_N_turn_289 (fun H locs hw => ?_)
    refine lv_aload hx hb d_N_turn_290 (lv_at hl 1 rfl) ?_
    refine lv_iload hx hb d_N_turn_292 (lv_at hl 2 rfl) ?_
    refine xr_iald hx hb hw h3 d_N_turn_294 ?_
    refine lv_if_ne (tgt := 333) hx hb d_N_turn_295 (by decide) (fun _ => ?_) (fun c9 => absurd c9 hc4)
    exact xr_vret F rfl hw d_N_turn_333
set_option maxRecDepth 100000 in
set_option maxHeartbeats 4000000 in
theorem t_N_turn_J183 (l : Launch) (Z : XZ) (u0 : PS) {K : PS → Prop} (x0 : Nat) (x1 : Int32) (x3 : Int32) (x4 : Nat) (x5 : Nat) (x6 : Int32) (x7 : Int32) (x8 : Int32) (x9 : Int32) (x10 : Int32) (x11 : Int32) (u : PS) (k : (p_N_turn_J183 K x0 x1 x3 x4 x5 x6 x7 x8 x9 x10 x11 u)) : XN l Z i_N_turn u0 (kV K) u 183 [(0, .ref x0), (1, .int x1), (3, .int x3), (4, .ref x4), (5, .ref x5), (6, .int x6), (7, .int x7), (8, .int x8), (9, .int x9), (10, .int x10), (11, .int x11)] [] := by
  unfold p_N_turn_J183 at k
  obtain ⟨z_54, h1, k⟩ := k
  obtain ⟨u_55, h2, k⟩ := k
  obtain ⟨z_56, h3, k⟩ := k
  obtain ⟨u_57, h4, k⟩ := k
  obtain ⟨u_58, h5, k⟩ := k
  obtain ⟨h7, k⟩ := k
  obtain ⟨_, u_59, ⟨rfl, k⟩, hM6⟩ := c_N_link l Z x0 x1 u_58 _ k
  obtain ⟨h9, k⟩ := k
  obtain ⟨_, u_60, ⟨rfl, k⟩, hM8⟩ := c_N_enlist l Z x0 x1 x3 u_59 _ k
  obtain ⟨z_61, h10, k⟩ := k
  obtain ⟨u_62, h11, k⟩ := k
  obtain ⟨z_63, h12, k⟩ := k
  by_cases hc13 : z_63 = 0
  · have k := k.2 hc13
    obtain ⟨z_64, h14, k⟩ := k
    obtain ⟨u_65, h15, k⟩ := k
    obtain ⟨z_66, h16, k⟩ := k
    obtain ⟨u_67, h17, k⟩ := k
    obtain ⟨h19, k⟩ := k
    obtain ⟨_, u_68, ⟨rfl, k⟩, hM18⟩ := c_N_forget l Z x0 x6 u_67 _ k
    obtain ⟨rv, v9, hK, hle_u_68, w9⟩ := t_N_turn_J281 l Z u0 x0 x5 x7 x9 u_68 k
    have hle_u_67 : x_le u_67 v9 := (hM18.1).tr hle_u_68
    have hle_u_65 : x_le u_65 v9 := (h17.le).tr hle_u_67
    have hle_u_62 : x_le u_62 v9 := (h15.le).tr hle_u_65
    have hle_u_60 : x_le u_60 v9 := (h11.le).tr hle_u_62
    have hle_u_59 : x_le u_59 v9 := (hM8.1).tr hle_u_60
    have hle_u_58 : x_le u_58 v9 := (hM6.1).tr hle_u_59
    have hle_u_57 : x_le u_57 v9 := (h5.le).tr hle_u_58
    have hle_u_55 : x_le u_55 v9 := (h4.le).tr hle_u_57
    have hle_u : x_le u v9 := (h2.le).tr hle_u_55
    refine ⟨rv, v9, hK, hle_u, ?_⟩
    intro p e s m args below meth c A H locs ls F hw hl
    obtain ⟨⟨hx, hb, hml, hown, hts⟩, hr, hlocks, hmn⟩ := id F
    refine lv_aload hx hb d_N_turn_183 (lv_at hl 4 rfl) ?_
    refine lv_iload hx hb d_N_turn_185 (lv_at hl 9 rfl) ?_
    refine lv_dup2_11 hx hb d_N_turn_187 rfl rfl ?_
    refine xr_iald hx hb hw h1 d_N_turn_188 ?_
    refine lv_iconst (v := 1) hx hb d_N_turn_189 (by decide) ?_
    refine lv_iadd hx hb d_N_turn_190 ?_
    refine xr_iast hx hb hw h2 d_N_turn_191 (fun H locs hw => ?_)
    refine lv_aload hx hb d_N_turn_192 (lv_at hl 4 rfl) ?_
    refine lv_iload hx hb d_N_turn_194 (lv_at hl 10 rfl) ?_
    refine lv_dup2_11 hx hb d_N_turn_196 rfl rfl ?_
    refine xr_iald hx hb hw h3 d_N_turn_197 ?_
    refine lv_iconst (v := 1) hx hb d_N_turn_198 (by decide) ?_
    refine lv_iadd hx hb d_N_turn_199 ?_
    refine xr_iast hx hb hw h4 d_N_turn_200 (fun H locs hw => ?_)
    refine lv_aload hx hb d_N_turn_201 (lv_at hl 3 rfl) ?_
    refine lv_iload_n hx hb d_N_turn_203 rfl (lv_at hl 1 rfl) ?_
    refine lv_iload_n hx hb d_N_turn_204 rfl (lv_at hl 2 rfl) ?_
    refine lv_bipush (v := 28) hx hb d_N_turn_205 (by decide) ?_
    refine lv_ishl hx hb d_N_turn_207 ?_
    refine lv_iload hx hb d_N_turn_208 (lv_at hl 9 rfl) ?_
    refine lv_bipush (v := 14) hx hb d_N_turn_210 (by decide) ?_
    refine lv_ishl hx hb d_N_turn_212 ?_
    refine lv_ior hx hb d_N_turn_213 ?_
    refine lv_iload hx hb d_N_turn_214 (lv_at hl 10 rfl) ?_
    refine lv_ior hx hb d_N_turn_216 ?_
    refine xr_iast hx hb hw h5 d_N_turn_217 (fun H locs hw => ?_)
    refine lv_aload_n hx hb d_N_turn_218 rfl (lv_at hl 0 rfl) ?_
    refine lv_iload_n hx hb d_N_turn_219 rfl (lv_at hl 1 rfl) ?_
    refine xr_cV (As := [.int x1]) (rest := []) ⟨hx, hb, hml, hown, hts⟩ hw hM6 hle_u_59 (fun _ _ => ⟨callB_of 1 hts (xgood w_311) rfl rfl rfl (hts _ (xm w_4)) (hts _ (xm w_308)) ⟨by decide, by decide, by decide +kernel⟩ ⟨Nat.le_of_ble_eq_true rfl, Nat.le_of_ble_eq_true rfl⟩, (hts _ (xm w_310)), (hts _ (xm wp_3))⟩) (qc := (R_N, F_N, 13)) rfl rfl h7 rfl hl.1 rfl (Nat.le_of_ble_eq_true rfl) d_N_turn_220 (fun H locs hw => ?_)
    refine W.eq (g2 := F0 m 223 ls []) rfl ?_
    refine lv_aload_n hx hb d_N_turn_223 rfl (lv_at hl 0 rfl) ?_
    refine lv_iload_n hx hb d_N_turn_224 rfl (lv_at hl 1 rfl) ?_
    refine lv_iload_n hx hb d_N_turn_225 rfl (lv_at hl 2 rfl) ?_
    refine xr_cV (As := [.int x1, .int x3]) (rest := []) ⟨hx, hb, hml, hown, hts⟩ hw hM8 hle_u_60 (fun _ _ => ⟨callB_of 2 hts (xgood w_325) rfl rfl rfl (hts _ (xm w_4)) (hts _ (xm w_322)) ⟨by decide, by decide, by decide +kernel⟩ ⟨Nat.le_of_ble_eq_true rfl, Nat.le_of_ble_eq_true rfl⟩, (hts _ (xm w_324)), (hts _ (xm wp_5))⟩) (qc := (R_N, F_N, 13)) rfl rfl h9 rfl hl.1 rfl (Nat.le_of_ble_eq_true rfl) d_N_turn_226 (fun H locs hw => ?_)
    refine W.eq (g2 := F0 m 229 ls []) rfl ?_
    refine lv_aload hx hb d_N_turn_229 (lv_at hl 4 rfl) ?_
    refine lv_iload hx hb d_N_turn_231 (lv_at hl 5 rfl) ?_
    refine lv_dup2_11 hx hb d_N_turn_233 rfl rfl ?_
    refine xr_iald hx hb hw h10 d_N_turn_234 ?_
    refine lv_iconst (v := 1) hx hb d_N_turn_235 (by decide) ?_
    refine lv_isub hx hb d_N_turn_236 ?_
    refine xr_iast hx hb hw h11 d_N_turn_237 (fun H locs hw => ?_)
    refine lv_aload hx hb d_N_turn_238 (lv_at hl 4 rfl) ?_
    refine lv_iload hx hb d_N_turn_240 (lv_at hl 5 rfl) ?_
    refine xr_iald hx hb hw h12 d_N_turn_242 ?_
    refine lv_if_ne (tgt := 281) hx hb d_N_turn_243 (by decide) (fun c9 => absurd hc13 c9) (fun _ => ?_)
    refine lv_aload hx hb d_N_turn_246 (lv_at hl 4 rfl) ?_
    refine lv_iload hx hb d_N_turn_248 (lv_at hl 7 rfl) ?_
    refine lv_bipush (v := 14) hx hb d_N_turn_250 (by decide) ?_
    refine lv_iushr hx hb d_N_turn_252 rfl ?_
    refine lv_sipush (v := 16383) hx hb d_N_turn_253 (by decide) ?_
    refine lv_iand hx hb d_N_turn_256 ?_
    refine lv_dup2_11 hx hb d_N_turn_257 rfl rfl ?_
    refine xr_iald hx hb hw h14 d_N_turn_258 ?_
    refine lv_iconst (v := 1) hx hb d_N_turn_259 (by decide) ?_
    refine lv_isub hx hb d_N_turn_260 ?_
    refine xr_iast hx hb hw h15 d_N_turn_261 (fun H locs hw => ?_)
    refine lv_aload hx hb d_N_turn_262 (lv_at hl 4 rfl) ?_
    refine lv_iload hx hb d_N_turn_264 (lv_at hl 7 rfl) ?_
    refine lv_sipush (v := 16383) hx hb d_N_turn_266 (by decide) ?_
    refine lv_iand hx hb d_N_turn_269 ?_
    refine lv_dup2_11 hx hb d_N_turn_270 rfl rfl ?_
    refine xr_iald hx hb hw h16 d_N_turn_271 ?_
    refine lv_iconst (v := 1) hx hb d_N_turn_272 (by decide) ?_
    refine lv_isub hx hb d_N_turn_273 ?_
    refine xr_iast hx hb hw h17 d_N_turn_274 (fun H locs hw => ?_)
    refine lv_aload_n hx hb d_N_turn_275 rfl (lv_at hl 0 rfl) ?_
    refine lv_iload hx hb d_N_turn_276 (lv_at hl 5 rfl) ?_
    refine xr_cV (As := [.int x6]) (rest := []) ⟨hx, hb, hml, hown, hts⟩ hw hM18 hle_u_68 (fun _ _ => ⟨callB_of 1 hts (xgood w_383) rfl rfl rfl (hts _ (xm w_4)) (hts _ (xm w_380)) ⟨by decide, by decide, by decide +kernel⟩ ⟨Nat.le_of_ble_eq_true rfl, Nat.le_of_ble_eq_true rfl⟩, (hts _ (xm w_382)), (hts _ (xm wp_16))⟩) (qc := (R_N, F_N, 13)) rfl rfl h19 rfl hl.1 rfl (Nat.le_of_ble_eq_true rfl) d_N_turn_278 (fun H locs hw => ?_)
    refine W.eq (g2 := F0 m 281 ls []) rfl ?_
    exact w9 p e s m args below meth c A H locs ls F hw (lv_sub hl [0, 4, 6, 8] rfl)
  · have k := k.1 hc13
    obtain ⟨rv, v9, hK, hle_u_62, w9⟩ := t_N_turn_J281 l Z u0 x0 x5 x7 x9 u_62 k
    have hle_u_60 : x_le u_60 v9 := (h11.le).tr hle_u_62
    have hle_u_59 : x_le u_59 v9 := (hM8.1).tr hle_u_60
    have hle_u_58 : x_le u_58 v9 := (hM6.1).tr hle_u_59
    have hle_u_57 : x_le u_57 v9 := (h5.le).tr hle_u_58
    have hle_u_55 : x_le u_55 v9 := (h4.le).tr hle_u_57
    have hle_u : x_le u v9 := (h2.le).tr hle_u_55
    refine ⟨rv, v9, hK, hle_u, ?_⟩
    intro p e s m args below meth c A H locs ls F hw hl
    obtain ⟨⟨hx, hb, hml, hown, hts⟩, hr, hlocks, hmn⟩ := id F
    refine lv_aload hx hb d_N_turn_183 (lv_at hl 4 rfl) ?_
    refine lv_iload hx hb d_N_turn_185 (lv_at hl 9 rfl) ?_
    refine lv_dup2_11 hx hb d_N_turn_187 rfl rfl ?_
    refine xr_iald hx hb hw h1 d_N_turn_188 ?_
    refine lv_iconst (v := 1) hx hb d_N_turn_189 (by decide) ?_
    refine lv_iadd hx hb d_N_turn_190 ?_
    refine xr_iast hx hb hw h2 d_N_turn_191 (fun H locs hw => ?_)
    refine lv_aload hx hb d_N_turn_192 (lv_at hl 4 rfl) ?_
    refine lv_iload hx hb d_N_turn_194 (lv_at hl 10 rfl) ?_
    refine lv_dup2_11 hx hb d_N_turn_196 rfl rfl ?_
    refine xr_iald hx hb hw h3 d_N_turn_197 ?_
    refine lv_iconst (v := 1) hx hb d_N_turn_198 (by decide) ?_
    refine lv_iadd hx hb d_N_turn_199 ?_
    refine xr_iast hx hb hw h4 d_N_turn_200 (fun H locs hw => ?_)
    refine lv_aload hx hb d_N_turn_201 (lv_at hl 3 rfl) ?_
    refine lv_iload_n hx hb d_N_turn_203 rfl (lv_at hl 1 rfl) ?_
    refine lv_iload_n hx hb d_N_turn_204 rfl (lv_at hl 2 rfl) ?_
    refine lv_bipush (v := 28) hx hb d_N_turn_205 (by decide) ?_
    refine lv_ishl hx hb d_N_turn_207 ?_
    refine lv_iload hx hb d_N_turn_208 (lv_at hl 9 rfl) ?_
    refine lv_bipush (v := 14) hx hb d_N_turn_210 (by decide) ?_
    refine lv_ishl hx hb d_N_turn_212 ?_
    refine lv_ior hx hb d_N_turn_213 ?_
    refine lv_iload hx hb d_N_turn_214 (lv_at hl 10 rfl) ?_
    refine lv_ior hx hb d_N_turn_216 ?_
    refine xr_iast hx hb hw h5 d_N_turn_217 (fun H locs hw => ?_)
    refine lv_aload_n hx hb d_N_turn_218 rfl (lv_at hl 0 rfl) ?_
    refine lv_iload_n hx hb d_N_turn_219 rfl (lv_at hl 1 rfl) ?_
    refine xr_cV (As := [.int x1]) (rest := []) ⟨hx, hb, hml, hown, hts⟩ hw hM6 hle_u_59 (fun _ _ => ⟨callB_of 1 hts (xgood w_311) rfl rfl rfl (hts _ (xm w_4)) (hts _ (xm w_308)) ⟨by decide, by decide, by decide +kernel⟩ ⟨Nat.le_of_ble_eq_true rfl, Nat.le_of_ble_eq_true rfl⟩, (hts _ (xm w_310)), (hts _ (xm wp_3))⟩) (qc := (R_N, F_N, 13)) rfl rfl h7 rfl hl.1 rfl (Nat.le_of_ble_eq_true rfl) d_N_turn_220 (fun H locs hw => ?_)
    refine W.eq (g2 := F0 m 223 ls []) rfl ?_
    refine lv_aload_n hx hb d_N_turn_223 rfl (lv_at hl 0 rfl) ?_
    refine lv_iload_n hx hb d_N_turn_224 rfl (lv_at hl 1 rfl) ?_
    refine lv_iload_n hx hb d_N_turn_225 rfl (lv_at hl 2 rfl) ?_
    refine xr_cV (As := [.int x1, .int x3]) (rest := []) ⟨hx, hb, hml, hown, hts⟩ hw hM8 hle_u_60 (fun _ _ => ⟨callB_of 2 hts (xgood w_325) rfl rfl rfl (hts _ (xm w_4)) (hts _ (xm w_322)) ⟨by decide, by decide, by decide +kernel⟩ ⟨Nat.le_of_ble_eq_true rfl, Nat.le_of_ble_eq_true rfl⟩, (hts _ (xm w_324)), (hts _ (xm wp_5))⟩) (qc := (R_N, F_N, 13)) rfl rfl h9 rfl hl.1 rfl (Nat.le_of_ble_eq_true rfl) d_N_turn_226 (fun H locs hw => ?_)
    refine W.eq (g2 := F0 m 229 ls []) rfl ?_
    refine lv_aload hx hb d_N_turn_229 (lv_at hl 4 rfl) ?_
    refine lv_iload hx hb d_N_turn_231 (lv_at hl 5 rfl) ?_
    refine lv_dup2_11 hx hb d_N_turn_233 rfl rfl ?_
    refine xr_iald hx hb hw h10 d_N_turn_234 ?_
    refine lv_iconst (v := 1) hx hb d_N_turn_235 (by decide) ?_
    refine lv_isub hx hb d_N_turn_236 ?_
    refine xr_iast hx hb hw h11 d_N_turn_237 (fun H locs hw => ?_)
    refine lv_aload hx hb d_N_turn_238 (lv_at hl 4 rfl) ?_
    refine lv_iload hx hb d_N_turn_240 (lv_at hl 5 rfl) ?_
    refine xr_iald hx hb hw h12 d_N_turn_242 ?_
    refine lv_if_ne (tgt := 281) hx hb d_N_turn_243 (by decide) (fun _ => ?_) (fun c9 => absurd c9 hc13)
    exact w9 p e s m args below meth c A H locs ls F hw (lv_sub hl [0, 4, 6, 8] rfl)
set_option maxRecDepth 100000 in
set_option maxHeartbeats 4000000 in
theorem c_N_turn (l : Launch) (Z : XZ) (x0 : Nat) (x1 : Int32) (x2 : Int32) (x3 : Int32) (u : PS) (K : PS → Prop) (k : p_N_turn x0 x1 x2 x3 u K) : ∃ (rv : Option Value) (u1 : PS), (kV K) rv u1 ∧ XMet l Z i_N_turn [.ref x0, .int x1, .int x2, .int x3] u rv u1 := by
  refine x_met (by decide) rfl (Nat.le_of_ble_eq_true rfl) ?_
  show XN l Z i_N_turn u (kV K) u 0 [(0, .ref x0), (1, .int x1), (2, .int x2), (3, .int x3)] []
  unfold p_N_turn at k
  obtain ⟨z_44, h1, k⟩ := k
  obtain ⟨z_45, h2, k⟩ := k
  obtain ⟨z_46, h3, k⟩ := k
  obtain ⟨y4, ey4⟩ : ∃ y9 : Int32, y9 = (((z_46.toUInt32 >>> ((14 : Int32).toUInt32 &&& Int32.toUInt32 31)).toInt32) &&& (16383 : Int32)) := ⟨_, rfl⟩
  have k := k y4 ey4
  obtain ⟨z_47, h5, k⟩ := k
  obtain ⟨y6, ey6⟩ : ∃ y9 : Int32, y9 = (z_47 &&& (16383 : Int32)) := ⟨_, rfl⟩
  have k := k y6 ey6
  obtain ⟨z_48, h7, k⟩ := k
  obtain ⟨z_49, h8, k⟩ := k
  by_cases hc9 : ((z_48.toUInt32 >>> ((28 : Int32).toUInt32 &&& Int32.toUInt32 31)).toInt32) = x3
  · have k := k.1 hc9
    by_cases hc10 : ((z_49.toUInt32 >>> ((28 : Int32).toUInt32 &&& Int32.toUInt32 31)).toInt32) = x3
    · have k := k.1 hc10
      obtain ⟨h12, k⟩ := k
      obtain ⟨_, u_50, ⟨r_51, rfl, k⟩, hM11⟩ := c_N_nodeFor l Z x0 x2 (((z_48.toUInt32 >>> ((14 : Int32).toUInt32 &&& Int32.toUInt32 31)).toInt32) &&& (16383 : Int32)) (((z_49.toUInt32 >>> ((14 : Int32).toUInt32 &&& Int32.toUInt32 31)).toInt32) &&& (16383 : Int32)) u _ k
      obtain ⟨h14, k⟩ := k
      obtain ⟨_, u_52, ⟨r_53, rfl, k⟩, hM13⟩ := c_N_nodeFor l Z x0 x2 (z_48 &&& (16383 : Int32)) (z_49 &&& (16383 : Int32)) u_50 _ k
      obtain ⟨rv, v9, hK, hle_u_52, w9⟩ := t_N_turn_J183 l Z u x0 x1 x3 z_44 z_45 y4 y6 z_48 z_49 r_51 r_53 u_52 k
      have hle_u_50 : x_le u_50 v9 := (hM13.1).tr hle_u_52
      have hle_u : x_le u v9 := (hM11.1).tr hle_u_50
      refine ⟨rv, v9, hK, hle_u, ?_⟩
      intro p e s m args below meth c A H locs ls F hw hl
      obtain ⟨⟨hx, hb, hml, hown, hts⟩, hr, hlocks, hmn⟩ := id F
      refine lv_aload_n hx hb d_N_turn_0 rfl (lv_at hl 0 rfl) ?_
      refine xr_get hx hb hts (xmu uws_N) hown hw h1 rfl (by decide) (hts _ (xm w_72)) (fun _ h9 => h9) d_N_turn_1 ?_
      refine lv_astore (lv' := [(4, .ref z_44), (0, .ref x0), (1, .int x1), (2, .int x2), (3, .int x3)]) hx hb d_N_turn_4 hl (by decide) rfl (fun ls hl => ?_)
      refine lv_aload_n hx hb d_N_turn_6 rfl (lv_at hl 1 rfl) ?_
      refine xr_get hx hb hts (xmu uws_N) hown hw h2 rfl (by decide) (hts _ (xm w_74)) (fun _ h9 => h9) d_N_turn_7 ?_
      refine lv_astore (lv' := [(5, .ref z_45), (4, .ref z_44), (0, .ref x0), (1, .int x1), (2, .int x2), (3, .int x3)]) hx hb d_N_turn_10 hl (by decide) rfl (fun ls hl => ?_)
      refine lv_aload hx hb d_N_turn_12 (lv_at hl 1 rfl) ?_
      refine lv_iload_n hx hb d_N_turn_14 rfl (lv_at hl 3 rfl) ?_
      refine xr_iald hx hb hw h3 d_N_turn_15 ?_
      refine lv_bipush (v := 14) hx hb d_N_turn_16 (by decide) ?_
      refine lv_iushr hx hb d_N_turn_18 rfl ?_
      refine lv_sipush (v := 16383) hx hb d_N_turn_19 (by decide) ?_
      refine lv_iand hx hb d_N_turn_22 ?_
      refine lv_istore (lv' := [(6, .int y4), (5, .ref z_45), (4, .ref z_44), (0, .ref x0), (1, .int x1), (2, .int x2), (3, .int x3)]) hx hb d_N_turn_23 hl (by decide) (by subst ey4; rfl) (fun ls hl => ?_)
      refine lv_aload hx hb d_N_turn_25 (lv_at hl 2 rfl) ?_
      refine lv_iload_n hx hb d_N_turn_27 rfl (lv_at hl 4 rfl) ?_
      refine xr_iald hx hb hw h5 d_N_turn_28 ?_
      refine lv_sipush (v := 16383) hx hb d_N_turn_29 (by decide) ?_
      refine lv_iand hx hb d_N_turn_32 ?_
      refine lv_istore (lv' := [(7, .int y6), (6, .int y4), (5, .ref z_45), (4, .ref z_44), (0, .ref x0), (1, .int x1), (2, .int x2), (3, .int x3)]) hx hb d_N_turn_33 hl (by decide) (by subst ey6; rfl) (fun ls hl => ?_)
      refine lv_aload hx hb d_N_turn_35 (lv_at hl 3 rfl) ?_
      refine lv_iload hx hb d_N_turn_37 (lv_at hl 1 rfl) ?_
      refine xr_iald hx hb hw h7 d_N_turn_39 ?_
      refine lv_istore (lv' := [(8, .int z_48), (7, .int y6), (6, .int y4), (5, .ref z_45), (4, .ref z_44), (0, .ref x0), (1, .int x1), (2, .int x2), (3, .int x3)]) hx hb d_N_turn_40 hl (by decide) rfl (fun ls hl => ?_)
      refine lv_aload hx hb d_N_turn_42 (lv_at hl 4 rfl) ?_
      refine lv_iload hx hb d_N_turn_44 (lv_at hl 1 rfl) ?_
      refine xr_iald hx hb hw h8 d_N_turn_46 ?_
      refine lv_istore (lv' := [(9, .int z_49), (8, .int z_48), (7, .int y6), (6, .int y4), (5, .ref z_45), (4, .ref z_44), (0, .ref x0), (1, .int x1), (2, .int x2), (3, .int x3)]) hx hb d_N_turn_47 hl (by decide) rfl (fun ls hl => ?_)
      refine lv_iload hx hb d_N_turn_49 (lv_at hl 1 rfl) ?_
      refine lv_bipush (v := 28) hx hb d_N_turn_51 (by decide) ?_
      refine lv_iushr hx hb d_N_turn_53 rfl ?_
      refine lv_iload_n hx hb d_N_turn_54 rfl (lv_at hl 9 rfl) ?_
      refine lv_icmp_eq (tgt := 94) hx hb d_N_turn_55 (by decide) (fun _ => ?_) (fun c9 => absurd hc9 c9)
      refine lv_iload hx hb d_N_turn_94 (lv_at hl 0 rfl) ?_
      refine lv_bipush (v := 28) hx hb d_N_turn_96 (by decide) ?_
      refine lv_iushr hx hb d_N_turn_98 rfl ?_
      refine lv_iload_n hx hb d_N_turn_99 rfl (lv_at hl 9 rfl) ?_
      refine lv_icmp_eq (tgt := 139) hx hb d_N_turn_100 (by decide) (fun _ => ?_) (fun c9 => absurd hc10 c9)
      refine lv_aload_n hx hb d_N_turn_139 rfl (lv_at hl 6 rfl) ?_
      refine lv_iload_n hx hb d_N_turn_140 rfl (lv_at hl 8 rfl) ?_
      refine lv_iload hx hb d_N_turn_141 (lv_at hl 1 rfl) ?_
      refine lv_bipush (v := 14) hx hb d_N_turn_143 (by decide) ?_
      refine lv_iushr hx hb d_N_turn_145 rfl ?_
      refine lv_sipush (v := 16383) hx hb d_N_turn_146 (by decide) ?_
      refine lv_iand hx hb d_N_turn_149 ?_
      refine lv_iload hx hb d_N_turn_150 (lv_at hl 0 rfl) ?_
      refine lv_bipush (v := 14) hx hb d_N_turn_152 (by decide) ?_
      refine lv_iushr hx hb d_N_turn_154 rfl ?_
      refine lv_sipush (v := 16383) hx hb d_N_turn_155 (by decide) ?_
      refine lv_iand hx hb d_N_turn_158 ?_
      refine xr_cV (As := [.int x2, .int (((z_48.toUInt32 >>> ((14 : Int32).toUInt32 &&& Int32.toUInt32 31)).toInt32) &&& (16383 : Int32)), .int (((z_49.toUInt32 >>> ((14 : Int32).toUInt32 &&& Int32.toUInt32 31)).toInt32) &&& (16383 : Int32))]) (rest := []) ⟨hx, hb, hml, hown, hts⟩ hw hM11 hle_u_50 (fun _ _ => ⟨callB_of 3 hts (xgood w_317) rfl rfl rfl (hts _ (xm w_4)) (hts _ (xm w_494)) ⟨by decide, by decide, by decide +kernel⟩ ⟨Nat.le_of_ble_eq_true rfl, Nat.le_of_ble_eq_true rfl⟩, (hts _ (xm w_315)), (hts _ (xm w_316))⟩) (qc := (R_N, F_N, 13)) rfl rfl h12 rfl hl.1 rfl (Nat.le_of_ble_eq_true rfl) d_N_turn_159 (fun H locs hw => ?_)
      refine W.eq (g2 := F0 m 162 ls [.int r_51]) rfl ?_
      refine lv_istore (lv' := [(10, .int r_51), (9, .int z_49), (8, .int z_48), (7, .int y6), (6, .int y4), (5, .ref z_45), (4, .ref z_44), (0, .ref x0), (1, .int x1), (2, .int x2), (3, .int x3)]) hx hb d_N_turn_162 hl (by decide) rfl (fun ls hl => ?_)
      refine lv_aload_n hx hb d_N_turn_164 rfl (lv_at hl 7 rfl) ?_
      refine lv_iload_n hx hb d_N_turn_165 rfl (lv_at hl 9 rfl) ?_
      refine lv_iload hx hb d_N_turn_166 (lv_at hl 2 rfl) ?_
      refine lv_sipush (v := 16383) hx hb d_N_turn_168 (by decide) ?_
      refine lv_iand hx hb d_N_turn_171 ?_
      refine lv_iload hx hb d_N_turn_172 (lv_at hl 1 rfl) ?_
      refine lv_sipush (v := 16383) hx hb d_N_turn_174 (by decide) ?_
      refine lv_iand hx hb d_N_turn_177 ?_
      refine xr_cV (As := [.int x2, .int (z_48 &&& (16383 : Int32)), .int (z_49 &&& (16383 : Int32))]) (rest := []) ⟨hx, hb, hml, hown, hts⟩ hw hM13 hle_u_52 (fun _ _ => ⟨callB_of 3 hts (xgood w_317) rfl rfl rfl (hts _ (xm w_4)) (hts _ (xm w_494)) ⟨by decide, by decide, by decide +kernel⟩ ⟨Nat.le_of_ble_eq_true rfl, Nat.le_of_ble_eq_true rfl⟩, (hts _ (xm w_315)), (hts _ (xm w_316))⟩) (qc := (R_N, F_N, 13)) rfl rfl h14 rfl hl.1 rfl (Nat.le_of_ble_eq_true rfl) d_N_turn_178 (fun H locs hw => ?_)
      refine W.eq (g2 := F0 m 181 ls [.int r_53]) rfl ?_
      refine lv_istore (lv' := [(11, .int r_53), (10, .int r_51), (9, .int z_49), (8, .int z_48), (7, .int y6), (6, .int y4), (5, .ref z_45), (4, .ref z_44), (0, .ref x0), (1, .int x1), (2, .int x2), (3, .int x3)]) hx hb d_N_turn_181 hl (by decide) rfl (fun ls hl => ?_)
      exact w9 p e s m args below meth c A H locs ls F hw (lv_sub hl [8, 9, 11, 7, 6, 5, 4, 3, 2, 1, 0] rfl)
    · have k := k.2 hc10
      obtain ⟨h16, k⟩ := k
      obtain ⟨_, u_77, ⟨r_78, rfl, k⟩, hM15⟩ := c_N_nodeFor l Z x0 x2 (((z_48.toUInt32 >>> ((14 : Int32).toUInt32 &&& Int32.toUInt32 31)).toInt32) &&& (16383 : Int32)) y6 u _ k
      obtain ⟨h18, k⟩ := k
      obtain ⟨_, u_79, ⟨r_80, rfl, k⟩, hM17⟩ := c_N_nodeFor l Z x0 x2 (z_48 &&& (16383 : Int32)) y6 u_77 _ k
      obtain ⟨rv, v9, hK, hle_u_79, w9⟩ := t_N_turn_J183 l Z u x0 x1 x3 z_44 z_45 y4 y6 z_48 z_49 r_78 r_80 u_79 k
      have hle_u_77 : x_le u_77 v9 := (hM17.1).tr hle_u_79
      have hle_u : x_le u v9 := (hM15.1).tr hle_u_77
      refine ⟨rv, v9, hK, hle_u, ?_⟩
      intro p e s m args below meth c A H locs ls F hw hl
      obtain ⟨⟨hx, hb, hml, hown, hts⟩, hr, hlocks, hmn⟩ := id F
      refine lv_aload_n hx hb d_N_turn_0 rfl (lv_at hl 0 rfl) ?_
      refine xr_get hx hb hts (xmu uws_N) hown hw h1 rfl (by decide) (hts _ (xm w_72)) (fun _ h9 => h9) d_N_turn_1 ?_
      refine lv_astore (lv' := [(4, .ref z_44), (0, .ref x0), (1, .int x1), (2, .int x2), (3, .int x3)]) hx hb d_N_turn_4 hl (by decide) rfl (fun ls hl => ?_)
      refine lv_aload_n hx hb d_N_turn_6 rfl (lv_at hl 1 rfl) ?_
      refine xr_get hx hb hts (xmu uws_N) hown hw h2 rfl (by decide) (hts _ (xm w_74)) (fun _ h9 => h9) d_N_turn_7 ?_
      refine lv_astore (lv' := [(5, .ref z_45), (4, .ref z_44), (0, .ref x0), (1, .int x1), (2, .int x2), (3, .int x3)]) hx hb d_N_turn_10 hl (by decide) rfl (fun ls hl => ?_)
      refine lv_aload hx hb d_N_turn_12 (lv_at hl 1 rfl) ?_
      refine lv_iload_n hx hb d_N_turn_14 rfl (lv_at hl 3 rfl) ?_
      refine xr_iald hx hb hw h3 d_N_turn_15 ?_
      refine lv_bipush (v := 14) hx hb d_N_turn_16 (by decide) ?_
      refine lv_iushr hx hb d_N_turn_18 rfl ?_
      refine lv_sipush (v := 16383) hx hb d_N_turn_19 (by decide) ?_
      refine lv_iand hx hb d_N_turn_22 ?_
      refine lv_istore (lv' := [(6, .int y4), (5, .ref z_45), (4, .ref z_44), (0, .ref x0), (1, .int x1), (2, .int x2), (3, .int x3)]) hx hb d_N_turn_23 hl (by decide) (by subst ey4; rfl) (fun ls hl => ?_)
      refine lv_aload hx hb d_N_turn_25 (lv_at hl 2 rfl) ?_
      refine lv_iload_n hx hb d_N_turn_27 rfl (lv_at hl 4 rfl) ?_
      refine xr_iald hx hb hw h5 d_N_turn_28 ?_
      refine lv_sipush (v := 16383) hx hb d_N_turn_29 (by decide) ?_
      refine lv_iand hx hb d_N_turn_32 ?_
      refine lv_istore (lv' := [(7, .int y6), (6, .int y4), (5, .ref z_45), (4, .ref z_44), (0, .ref x0), (1, .int x1), (2, .int x2), (3, .int x3)]) hx hb d_N_turn_33 hl (by decide) (by subst ey6; rfl) (fun ls hl => ?_)
      refine lv_aload hx hb d_N_turn_35 (lv_at hl 3 rfl) ?_
      refine lv_iload hx hb d_N_turn_37 (lv_at hl 1 rfl) ?_
      refine xr_iald hx hb hw h7 d_N_turn_39 ?_
      refine lv_istore (lv' := [(8, .int z_48), (7, .int y6), (6, .int y4), (5, .ref z_45), (4, .ref z_44), (0, .ref x0), (1, .int x1), (2, .int x2), (3, .int x3)]) hx hb d_N_turn_40 hl (by decide) rfl (fun ls hl => ?_)
      refine lv_aload hx hb d_N_turn_42 (lv_at hl 4 rfl) ?_
      refine lv_iload hx hb d_N_turn_44 (lv_at hl 1 rfl) ?_
      refine xr_iald hx hb hw h8 d_N_turn_46 ?_
      refine lv_istore (lv' := [(9, .int z_49), (8, .int z_48), (7, .int y6), (6, .int y4), (5, .ref z_45), (4, .ref z_44), (0, .ref x0), (1, .int x1), (2, .int x2), (3, .int x3)]) hx hb d_N_turn_47 hl (by decide) rfl (fun ls hl => ?_)
      refine lv_iload hx hb d_N_turn_49 (lv_at hl 1 rfl) ?_
      refine lv_bipush (v := 28) hx hb d_N_turn_51 (by decide) ?_
      refine lv_iushr hx hb d_N_turn_53 rfl ?_
      refine lv_iload_n hx hb d_N_turn_54 rfl (lv_at hl 9 rfl) ?_
      refine lv_icmp_eq (tgt := 94) hx hb d_N_turn_55 (by decide) (fun _ => ?_) (fun c9 => absurd hc9 c9)
      refine lv_iload hx hb d_N_turn_94 (lv_at hl 0 rfl) ?_
      refine lv_bipush (v := 28) hx hb d_N_turn_96 (by decide) ?_
      refine lv_iushr hx hb d_N_turn_98 rfl ?_
      refine lv_iload_n hx hb d_N_turn_99 rfl (lv_at hl 9 rfl) ?_
      refine lv_icmp_eq (tgt := 139) hx hb d_N_turn_100 (by decide) (fun c9 => absurd c9 hc10) (fun _ => ?_)
      refine lv_aload_n hx hb d_N_turn_103 rfl (lv_at hl 6 rfl) ?_
      refine lv_iload_n hx hb d_N_turn_104 rfl (lv_at hl 8 rfl) ?_
      refine lv_iload hx hb d_N_turn_105 (lv_at hl 1 rfl) ?_
      refine lv_bipush (v := 14) hx hb d_N_turn_107 (by decide) ?_
      refine lv_iushr hx hb d_N_turn_109 rfl ?_
      refine lv_sipush (v := 16383) hx hb d_N_turn_110 (by decide) ?_
      refine lv_iand hx hb d_N_turn_113 ?_
      refine lv_iload hx hb d_N_turn_114 (lv_at hl 2 rfl) ?_
      refine xr_cV (As := [.int x2, .int (((z_48.toUInt32 >>> ((14 : Int32).toUInt32 &&& Int32.toUInt32 31)).toInt32) &&& (16383 : Int32)), .int y6]) (rest := []) ⟨hx, hb, hml, hown, hts⟩ hw hM15 hle_u_77 (fun _ _ => ⟨callB_of 3 hts (xgood w_317) rfl rfl rfl (hts _ (xm w_4)) (hts _ (xm w_494)) ⟨by decide, by decide, by decide +kernel⟩ ⟨Nat.le_of_ble_eq_true rfl, Nat.le_of_ble_eq_true rfl⟩, (hts _ (xm w_315)), (hts _ (xm w_316))⟩) (qc := (R_N, F_N, 13)) rfl rfl h16 rfl hl.1 rfl (Nat.le_of_ble_eq_true rfl) d_N_turn_116 (fun H locs hw => ?_)
      refine W.eq (g2 := F0 m 119 ls [.int r_78]) rfl ?_
      refine lv_istore (lv' := [(10, .int r_78), (9, .int z_49), (8, .int z_48), (7, .int y6), (6, .int y4), (5, .ref z_45), (4, .ref z_44), (0, .ref x0), (1, .int x1), (2, .int x2), (3, .int x3)]) hx hb d_N_turn_119 hl (by decide) rfl (fun ls hl => ?_)
      refine lv_aload_n hx hb d_N_turn_121 rfl (lv_at hl 7 rfl) ?_
      refine lv_iload_n hx hb d_N_turn_122 rfl (lv_at hl 9 rfl) ?_
      refine lv_iload hx hb d_N_turn_123 (lv_at hl 2 rfl) ?_
      refine lv_sipush (v := 16383) hx hb d_N_turn_125 (by decide) ?_
      refine lv_iand hx hb d_N_turn_128 ?_
      refine lv_iload hx hb d_N_turn_129 (lv_at hl 3 rfl) ?_
      refine xr_cV (As := [.int x2, .int (z_48 &&& (16383 : Int32)), .int y6]) (rest := []) ⟨hx, hb, hml, hown, hts⟩ hw hM17 hle_u_79 (fun _ _ => ⟨callB_of 3 hts (xgood w_317) rfl rfl rfl (hts _ (xm w_4)) (hts _ (xm w_494)) ⟨by decide, by decide, by decide +kernel⟩ ⟨Nat.le_of_ble_eq_true rfl, Nat.le_of_ble_eq_true rfl⟩, (hts _ (xm w_315)), (hts _ (xm w_316))⟩) (qc := (R_N, F_N, 13)) rfl rfl h18 rfl hl.1 rfl (Nat.le_of_ble_eq_true rfl) d_N_turn_131 (fun H locs hw => ?_)
      refine W.eq (g2 := F0 m 134 ls [.int r_80]) rfl ?_
      refine lv_istore (lv' := [(11, .int r_80), (10, .int r_78), (9, .int z_49), (8, .int z_48), (7, .int y6), (6, .int y4), (5, .ref z_45), (4, .ref z_44), (0, .ref x0), (1, .int x1), (2, .int x2), (3, .int x3)]) hx hb d_N_turn_134 hl (by decide) rfl (fun ls hl => ?_)
      refine lv_goto (tgt := 183) hx hb d_N_turn_136 (by decide) ?_
      exact w9 p e s m args below meth c A H locs ls F hw (lv_sub hl [8, 9, 11, 7, 6, 5, 4, 3, 2, 1, 0] rfl)
  · have k := k.2 hc9
    obtain ⟨h20, k⟩ := k
    obtain ⟨_, u_81, ⟨r_82, rfl, k⟩, hM19⟩ := c_N_nodeFor l Z x0 x2 y4 (((z_49.toUInt32 >>> ((14 : Int32).toUInt32 &&& Int32.toUInt32 31)).toInt32) &&& (16383 : Int32)) u _ k
    obtain ⟨h22, k⟩ := k
    obtain ⟨_, u_83, ⟨r_84, rfl, k⟩, hM21⟩ := c_N_nodeFor l Z x0 x2 y4 (z_49 &&& (16383 : Int32)) u_81 _ k
    obtain ⟨rv, v9, hK, hle_u_83, w9⟩ := t_N_turn_J183 l Z u x0 x1 x3 z_44 z_45 y4 y6 z_48 z_49 r_82 r_84 u_83 k
    have hle_u_81 : x_le u_81 v9 := (hM21.1).tr hle_u_83
    have hle_u : x_le u v9 := (hM19.1).tr hle_u_81
    refine ⟨rv, v9, hK, hle_u, ?_⟩
    intro p e s m args below meth c A H locs ls F hw hl
    obtain ⟨⟨hx, hb, hml, hown, hts⟩, hr, hlocks, hmn⟩ := id F
    refine lv_aload_n hx hb d_N_turn_0 rfl (lv_at hl 0 rfl) ?_
    refine xr_get hx hb hts (xmu uws_N) hown hw h1 rfl (by decide) (hts _ (xm w_72)) (fun _ h9 => h9) d_N_turn_1 ?_
    refine lv_astore (lv' := [(4, .ref z_44), (0, .ref x0), (1, .int x1), (2, .int x2), (3, .int x3)]) hx hb d_N_turn_4 hl (by decide) rfl (fun ls hl => ?_)
    refine lv_aload_n hx hb d_N_turn_6 rfl (lv_at hl 1 rfl) ?_
    refine xr_get hx hb hts (xmu uws_N) hown hw h2 rfl (by decide) (hts _ (xm w_74)) (fun _ h9 => h9) d_N_turn_7 ?_
    refine lv_astore (lv' := [(5, .ref z_45), (4, .ref z_44), (0, .ref x0), (1, .int x1), (2, .int x2), (3, .int x3)]) hx hb d_N_turn_10 hl (by decide) rfl (fun ls hl => ?_)
    refine lv_aload hx hb d_N_turn_12 (lv_at hl 1 rfl) ?_
    refine lv_iload_n hx hb d_N_turn_14 rfl (lv_at hl 3 rfl) ?_
    refine xr_iald hx hb hw h3 d_N_turn_15 ?_
    refine lv_bipush (v := 14) hx hb d_N_turn_16 (by decide) ?_
    refine lv_iushr hx hb d_N_turn_18 rfl ?_
    refine lv_sipush (v := 16383) hx hb d_N_turn_19 (by decide) ?_
    refine lv_iand hx hb d_N_turn_22 ?_
    refine lv_istore (lv' := [(6, .int y4), (5, .ref z_45), (4, .ref z_44), (0, .ref x0), (1, .int x1), (2, .int x2), (3, .int x3)]) hx hb d_N_turn_23 hl (by decide) (by subst ey4; rfl) (fun ls hl => ?_)
    refine lv_aload hx hb d_N_turn_25 (lv_at hl 2 rfl) ?_
    refine lv_iload_n hx hb d_N_turn_27 rfl (lv_at hl 4 rfl) ?_
    refine xr_iald hx hb hw h5 d_N_turn_28 ?_
    refine lv_sipush (v := 16383) hx hb d_N_turn_29 (by decide) ?_
    refine lv_iand hx hb d_N_turn_32 ?_
    refine lv_istore (lv' := [(7, .int y6), (6, .int y4), (5, .ref z_45), (4, .ref z_44), (0, .ref x0), (1, .int x1), (2, .int x2), (3, .int x3)]) hx hb d_N_turn_33 hl (by decide) (by subst ey6; rfl) (fun ls hl => ?_)
    refine lv_aload hx hb d_N_turn_35 (lv_at hl 3 rfl) ?_
    refine lv_iload hx hb d_N_turn_37 (lv_at hl 1 rfl) ?_
    refine xr_iald hx hb hw h7 d_N_turn_39 ?_
    refine lv_istore (lv' := [(8, .int z_48), (7, .int y6), (6, .int y4), (5, .ref z_45), (4, .ref z_44), (0, .ref x0), (1, .int x1), (2, .int x2), (3, .int x3)]) hx hb d_N_turn_40 hl (by decide) rfl (fun ls hl => ?_)
    refine lv_aload hx hb d_N_turn_42 (lv_at hl 4 rfl) ?_
    refine lv_iload hx hb d_N_turn_44 (lv_at hl 1 rfl) ?_
    refine xr_iald hx hb hw h8 d_N_turn_46 ?_
    refine lv_istore (lv' := [(9, .int z_49), (8, .int z_48), (7, .int y6), (6, .int y4), (5, .ref z_45), (4, .ref z_44), (0, .ref x0), (1, .int x1), (2, .int x2), (3, .int x3)]) hx hb d_N_turn_47 hl (by decide) rfl (fun ls hl => ?_)
    refine lv_iload hx hb d_N_turn_49 (lv_at hl 1 rfl) ?_
    refine lv_bipush (v := 28) hx hb d_N_turn_51 (by decide) ?_
    refine lv_iushr hx hb d_N_turn_53 rfl ?_
    refine lv_iload_n hx hb d_N_turn_54 rfl (lv_at hl 9 rfl) ?_
    refine lv_icmp_eq (tgt := 94) hx hb d_N_turn_55 (by decide) (fun c9 => absurd c9 hc9) (fun _ => ?_)
    refine lv_aload_n hx hb d_N_turn_58 rfl (lv_at hl 6 rfl) ?_
    refine lv_iload_n hx hb d_N_turn_59 rfl (lv_at hl 8 rfl) ?_
    refine lv_iload hx hb d_N_turn_60 (lv_at hl 3 rfl) ?_
    refine lv_iload hx hb d_N_turn_62 (lv_at hl 0 rfl) ?_
    refine lv_bipush (v := 14) hx hb d_N_turn_64 (by decide) ?_
    refine lv_iushr hx hb d_N_turn_66 rfl ?_
    refine lv_sipush (v := 16383) hx hb d_N_turn_67 (by decide) ?_
    refine lv_iand hx hb d_N_turn_70 ?_
    refine xr_cV (As := [.int x2, .int y4, .int (((z_49.toUInt32 >>> ((14 : Int32).toUInt32 &&& Int32.toUInt32 31)).toInt32) &&& (16383 : Int32))]) (rest := []) ⟨hx, hb, hml, hown, hts⟩ hw hM19 hle_u_81 (fun _ _ => ⟨callB_of 3 hts (xgood w_317) rfl rfl rfl (hts _ (xm w_4)) (hts _ (xm w_494)) ⟨by decide, by decide, by decide +kernel⟩ ⟨Nat.le_of_ble_eq_true rfl, Nat.le_of_ble_eq_true rfl⟩, (hts _ (xm w_315)), (hts _ (xm w_316))⟩) (qc := (R_N, F_N, 13)) rfl rfl h20 rfl hl.1 rfl (Nat.le_of_ble_eq_true rfl) d_N_turn_71 (fun H locs hw => ?_)
    refine W.eq (g2 := F0 m 74 ls [.int r_82]) rfl ?_
    refine lv_istore (lv' := [(10, .int r_82), (9, .int z_49), (8, .int z_48), (7, .int y6), (6, .int y4), (5, .ref z_45), (4, .ref z_44), (0, .ref x0), (1, .int x1), (2, .int x2), (3, .int x3)]) hx hb d_N_turn_74 hl (by decide) rfl (fun ls hl => ?_)
    refine lv_aload_n hx hb d_N_turn_76 rfl (lv_at hl 7 rfl) ?_
    refine lv_iload_n hx hb d_N_turn_77 rfl (lv_at hl 9 rfl) ?_
    refine lv_iload hx hb d_N_turn_78 (lv_at hl 4 rfl) ?_
    refine lv_iload hx hb d_N_turn_80 (lv_at hl 1 rfl) ?_
    refine lv_sipush (v := 16383) hx hb d_N_turn_82 (by decide) ?_
    refine lv_iand hx hb d_N_turn_85 ?_
    refine xr_cV (As := [.int x2, .int y4, .int (z_49 &&& (16383 : Int32))]) (rest := []) ⟨hx, hb, hml, hown, hts⟩ hw hM21 hle_u_83 (fun _ _ => ⟨callB_of 3 hts (xgood w_317) rfl rfl rfl (hts _ (xm w_4)) (hts _ (xm w_494)) ⟨by decide, by decide, by decide +kernel⟩ ⟨Nat.le_of_ble_eq_true rfl, Nat.le_of_ble_eq_true rfl⟩, (hts _ (xm w_315)), (hts _ (xm w_316))⟩) (qc := (R_N, F_N, 13)) rfl rfl h22 rfl hl.1 rfl (Nat.le_of_ble_eq_true rfl) d_N_turn_86 (fun H locs hw => ?_)
    refine W.eq (g2 := F0 m 89 ls [.int r_84]) rfl ?_
    refine lv_istore (lv' := [(11, .int r_84), (10, .int r_82), (9, .int z_49), (8, .int z_48), (7, .int y6), (6, .int y4), (5, .ref z_45), (4, .ref z_44), (0, .ref x0), (1, .int x1), (2, .int x2), (3, .int x3)]) hx hb d_N_turn_89 hl (by decide) rfl (fun ls hl => ?_)
    refine lv_goto (tgt := 183) hx hb d_N_turn_91 (by decide) ?_
    exact w9 p e s m args below meth c A H locs ls F hw (lv_sub hl [8, 9, 11, 7, 6, 5, 4, 3, 2, 1, 0] rfl)
set_option maxRecDepth 100000 in
set_option maxHeartbeats 4000000 in
theorem t_N_change_L29 (l : Launch) (Z : XZ) (u0 : PS) {Kv : Option Value → PS → Prop} {E65 : PS → Prop} (x0 : Nat) (x1 : Int32) (x2 : Int32) (hE65 : ∀ (v : PS), E65 v → XN l Z i_N_change u0 Kv v 65 [] []) : ∀ (n : Nat) (x3 : Int32) (x4 : Int32) (u : PS), p_N_change_L29 x0 x1 x2 E65 n x3 x4 u → XN l Z i_N_change u0 Kv u 29 [(0, .ref x0), (1, .int x1), (2, .int x2), (3, .int x3), (4, .int x4)] [] := by
  intro n
  induction n with
  | zero => intro x3 x4 u k; exact False.elim k
  | succ n ih =>
    intro x3 x4 u k
    rw [p_N_change_L29] at k
    by_cases hc1 : x3 = 0
    · have k := k.1 hc1
      obtain ⟨rv, v9, hK, hle_u, w9⟩ := hE65 u k
      refine ⟨rv, v9, hK, hle_u, ?_⟩
      intro p e s m args below meth c A H locs ls F hw hl
      obtain ⟨⟨hx, hb, hml, hown, hts⟩, hr, hlocks, hmn⟩ := id F
      refine lv_iload_n hx hb d_N_change_29 rfl (lv_at hl 3 rfl) ?_
      refine lv_if_eq (tgt := 65) hx hb d_N_change_30 (by decide) (fun _ => ?_) (fun c9 => absurd hc1 c9)
      exact w9 p e s m args below meth c A H locs ls F hw (lv_sub hl [] rfl)
    · have k := k.2 hc1
      by_cases hc2 : 16384 ≤ x4
      · have k := k.1 hc2
        obtain ⟨rv, v9, hK, hle_u, w9⟩ := hE65 u k
        refine ⟨rv, v9, hK, hle_u, ?_⟩
        intro p e s m args below meth c A H locs ls F hw hl
        obtain ⟨⟨hx, hb, hml, hown, hts⟩, hr, hlocks, hmn⟩ := id F
        refine lv_iload_n hx hb d_N_change_29 rfl (lv_at hl 3 rfl) ?_
        refine lv_if_eq (tgt := 65) hx hb d_N_change_30 (by decide) (fun c9 => absurd c9 hc1) (fun _ => ?_)
        refine lv_iload hx hb d_N_change_33 (lv_at hl 4 rfl) ?_
        refine lv_sipush (v := 16384) hx hb d_N_change_35 (by decide) ?_
        refine lv_icmp_ge (tgt := 65) hx hb d_N_change_38 (by decide) (fun _ => ?_) (fun c9 => absurd hc2 c9)
        exact w9 p e s m args below meth c A H locs ls F hw (lv_sub hl [] rfl)
      · have k := k.2 hc2
        obtain ⟨z_19, h3, k⟩ := k
        obtain ⟨z_20, h4, k⟩ := k
        obtain ⟨h6, k⟩ := k
        obtain ⟨_, u_21, ⟨rfl, k⟩, hM5⟩ := c_N_turn l Z x0 x3 x1 x2 u _ k
        obtain ⟨y7, ey7⟩ : ∃ y9 : Int32, y9 = x4 + 1 := ⟨_, rfl⟩
        have k := k y7 ey7
        obtain ⟨rv, v9, hK, hle_u_21, w9⟩ := ih z_20 y7 u_21 k
        have hle_u : x_le u v9 := (hM5.1).tr hle_u_21
        refine ⟨rv, v9, hK, hle_u, ?_⟩
        intro p e s m args below meth c A H locs ls F hw hl
        obtain ⟨⟨hx, hb, hml, hown, hts⟩, hr, hlocks, hmn⟩ := id F
        refine lv_iload_n hx hb d_N_change_29 rfl (lv_at hl 3 rfl) ?_
        refine lv_if_eq (tgt := 65) hx hb d_N_change_30 (by decide) (fun c9 => absurd c9 hc1) (fun _ => ?_)
        refine lv_iload hx hb d_N_change_33 (lv_at hl 4 rfl) ?_
        refine lv_sipush (v := 16384) hx hb d_N_change_35 (by decide) ?_
        refine lv_icmp_ge (tgt := 65) hx hb d_N_change_38 (by decide) (fun c9 => absurd c9 hc2) (fun _ => ?_)
        refine lv_aload_n hx hb d_N_change_41 rfl (lv_at hl 0 rfl) ?_
        refine xr_get hx hb hts (xmu uws_N) hown hw h3 rfl (by decide) (hts _ (xm w_81)) (fun _ h9 => h9) d_N_change_42 ?_
        refine lv_iload_n hx hb d_N_change_45 rfl (lv_at hl 3 rfl) ?_
        refine xr_iald hx hb hw h4 d_N_change_46 ?_
        refine lv_istore (lv' := [(5, .int z_20), (0, .ref x0), (1, .int x1), (2, .int x2), (3, .int x3), (4, .int x4)]) hx hb d_N_change_47 hl (by decide) rfl (fun ls hl => ?_)
        refine lv_aload_n hx hb d_N_change_49 rfl (lv_at hl 1 rfl) ?_
        refine lv_iload_n hx hb d_N_change_50 rfl (lv_at hl 4 rfl) ?_
        refine lv_iload_n hx hb d_N_change_51 rfl (lv_at hl 2 rfl) ?_
        refine lv_iload_n hx hb d_N_change_52 rfl (lv_at hl 3 rfl) ?_
        refine xr_cV (As := [.int x3, .int x1, .int x2]) (rest := []) ⟨hx, hb, hml, hown, hts⟩ hw hM5 hle_u_21 (fun _ _ => ⟨callB_of 3 hts (xgood w_493) rfl rfl rfl (hts _ (xm w_4)) (hts _ (xm w_490)) ⟨by decide, by decide, by decide +kernel⟩ ⟨Nat.le_of_ble_eq_true rfl, Nat.le_of_ble_eq_true rfl⟩, (hts _ (xm w_492)), (hts _ (xm wp_28))⟩) (qc := (R_N, F_N, 13)) rfl rfl h6 rfl hl.1 rfl (Nat.le_of_ble_eq_true rfl) d_N_change_53 (fun H locs hw => ?_)
        refine W.eq (g2 := F0 m 56 ls []) rfl ?_
        refine lv_iload hx hb d_N_change_56 (lv_at hl 0 rfl) ?_
        refine lv_istore_n (lv' := [(3, .int z_20), (5, .int z_20), (0, .ref x0), (1, .int x1), (2, .int x2), (4, .int x4)]) hx hb d_N_change_58 rfl hl (by decide) rfl (fun ls hl => ?_)
        refine lv_iinc (v := y7) (lv' := [(4, .int y7), (3, .int z_20), (5, .int z_20), (0, .ref x0), (1, .int x1), (2, .int x2)]) hx hb d_N_change_59 hl (k := 5) rfl (by subst ey7; rfl) (by decide) rfl (fun ls hl => ?_)
        refine lv_goto (tgt := 29) hx hb d_N_change_62 (by decide) ?_
        exact w9 p e s m args below meth c A H locs ls F hw (lv_sub hl [3, 4, 5, 1, 0] rfl)
set_option maxRecDepth 100000 in
set_option maxHeartbeats 4000000 in
theorem c_N_change (l : Launch) (Z : XZ) (x0 : Nat) (x1 : Int32) (x2 : Int32) (u : PS) (K : PS → Prop) (k : p_N_change x0 x1 x2 u K) : ∃ (rv : Option Value) (u1 : PS), (kV K) rv u1 ∧ XMet l Z i_N_change [.ref x0, .int x1, .int x2] u rv u1 := by
  refine x_met (by decide) rfl (Nat.le_of_ble_eq_true rfl) ?_
  show XN l Z i_N_change u (kV K) u 0 [(0, .ref x0), (1, .int x1), (2, .int x2)] []
  unfold p_N_change at k
  obtain ⟨z_13, h1, k⟩ := k
  obtain ⟨z_14, h2, k⟩ := k
  obtain ⟨z_15, h3, k⟩ := k
  obtain ⟨h5, k⟩ := k
  obtain ⟨_, u_16, ⟨rfl, k⟩, hM4⟩ := c_N_makeRoomFor l Z x0 (((2 : Int32) + z_13) + ((2 : Int32) * z_15)) u _ k
  obtain ⟨h7, k⟩ := k
  obtain ⟨_, u_17, ⟨r_18, rfl, k⟩, hM6⟩ := c_N_takeThoseBefore l Z x0 x1 x2 u_16 _ k
  obtain ⟨n8, k⟩ := k
  have hx10 : ∀ (v9 : PS), (K v9) → XN l Z i_N_change u (kV K) v9 65 [] [] := by
    intro v9 k
    have hle_v9 : x_le v9 v9 := x_le.rf v9
    refine ⟨none, v9, ⟨rfl, k⟩, hle_v9, ?_⟩
    intro p e s m args below meth c A H locs ls F hw hl
    obtain ⟨⟨hx, hb, hml, hown, hts⟩, hr, hlocks, hmn⟩ := id F
    exact xr_vret F rfl hw d_N_change_65
  obtain ⟨rv, v9, hK, hle_u_17, w9⟩ := t_N_change_L29 l Z u x0 x1 x2 hx10 n8 r_18 (0 : Int32) u_17 k
  have hle_u_16 : x_le u_16 v9 := (hM6.1).tr hle_u_17
  have hle_u : x_le u v9 := (hM4.1).tr hle_u_16
  refine ⟨rv, v9, hK, hle_u, ?_⟩
  intro p e s m args below meth c A H locs ls F hw hl
  obtain ⟨⟨hx, hb, hml, hown, hts⟩, hr, hlocks, hmn⟩ := id F
  refine lv_aload_n hx hb d_N_change_0 rfl (lv_at hl 0 rfl) ?_
  refine lv_iconst (v := 2) hx hb d_N_change_1 (by decide) ?_
  refine lv_aload_n hx hb d_N_change_2 rfl (lv_at hl 0 rfl) ?_
  refine xr_get hx hb hts (xmu uws_N) hown hw h1 rfl (by decide) (hts _ (xm w_87)) (fun _ h9 => h9) d_N_change_3 ?_
  refine lv_iadd hx hb d_N_change_6 ?_
  refine lv_iconst (v := 2) hx hb d_N_change_7 (by decide) ?_
  refine lv_aload_n hx hb d_N_change_8 rfl (lv_at hl 0 rfl) ?_
  refine xr_get hx hb hts (xmu uws_N) hown hw h2 rfl (by decide) (hts _ (xm w_78)) (fun _ h9 => h9) d_N_change_9 ?_
  refine lv_iload_n hx hb d_N_change_12 rfl (lv_at hl 1 rfl) ?_
  refine xr_iald hx hb hw h3 d_N_change_13 ?_
  refine lv_imul hx hb d_N_change_14 ?_
  refine lv_iadd hx hb d_N_change_15 ?_
  refine xr_cV (As := [.int (((2 : Int32) + z_13) + ((2 : Int32) * z_15))]) (rest := []) ⟨hx, hb, hml, hown, hts⟩ hw hM4 hle_u_16 (fun _ _ => ⟨callB_of 1 hts (xgood w_301) rfl rfl rfl (hts _ (xm w_4)) (hts _ (xm w_485)) ⟨by decide, by decide, by decide +kernel⟩ ⟨Nat.le_of_ble_eq_true rfl, Nat.le_of_ble_eq_true rfl⟩, (hts _ (xm w_299)), (hts _ (xm w_300))⟩) (qc := (R_N, F_N, 13)) rfl rfl h5 rfl hl.1 rfl (Nat.le_of_ble_eq_true rfl) d_N_change_16 (fun H locs hw => ?_)
  refine W.eq (g2 := F0 m 19 ls []) rfl ?_
  refine lv_aload_n hx hb d_N_change_19 rfl (lv_at hl 0 rfl) ?_
  refine lv_iload_n hx hb d_N_change_20 rfl (lv_at hl 1 rfl) ?_
  refine lv_iload_n hx hb d_N_change_21 rfl (lv_at hl 2 rfl) ?_
  refine xr_cV (As := [.int x1, .int x2]) (rest := []) ⟨hx, hb, hml, hown, hts⟩ hw hM6 hle_u_17 (fun _ _ => ⟨callB_of 2 hts (xgood w_489) rfl rfl rfl (hts _ (xm w_4)) (hts _ (xm w_486)) ⟨by decide, by decide, by decide +kernel⟩ ⟨Nat.le_of_ble_eq_true rfl, Nat.le_of_ble_eq_true rfl⟩, (hts _ (xm w_488)), (hts _ (xm wp_27))⟩) (qc := (R_N, F_N, 13)) rfl rfl h7 rfl hl.1 rfl (Nat.le_of_ble_eq_true rfl) d_N_change_22 (fun H locs hw => ?_)
  refine W.eq (g2 := F0 m 25 ls [.int r_18]) rfl ?_
  refine lv_istore_n (lv' := [(3, .int r_18), (0, .ref x0), (1, .int x1), (2, .int x2)]) hx hb d_N_change_25 rfl hl (by decide) rfl (fun ls hl => ?_)
  refine lv_iconst (v := 0) hx hb d_N_change_26 (by decide) ?_
  refine lv_istore (lv' := [(4, .int 0), (3, .int r_18), (0, .ref x0), (1, .int x1), (2, .int x2)]) hx hb d_N_change_27 hl (by decide) rfl (fun ls hl => ?_)
  exact w9 p e s m args below meth c A H locs ls F hw (lv_sub hl [2, 3, 4, 1, 0] rfl)
