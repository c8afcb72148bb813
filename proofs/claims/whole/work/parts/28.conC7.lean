set_option maxRecDepth 100000 in
set_option maxHeartbeats 4000000 in
theorem c_T_start (l : Launch) (Z : XZ) (x0 : Nat) (x1 : Int32) (u : PS) (K : PS → Prop) (k : p_T_start x0 x1 u K) : ∃ (rv : Option Value) (u1 : PS), (kV K) rv u1 ∧ XMet l Z i_T_start [.ref x0, .int x1] u rv u1 := by
  refine x_met (by decide) rfl (Nat.le_of_ble_eq_true rfl) ?_
  show XN l Z i_T_start u (kV K) u 0 [(0, .ref x0), (1, .int x1)] []
  unfold p_T_start at k
  obtain ⟨z_13, h1, k⟩ := k
  obtain ⟨z_14, h2, k⟩ := k
  obtain ⟨u_15, h3, k⟩ := k
  obtain ⟨z_16, h4, k⟩ := k
  obtain ⟨z_17, h5, k⟩ := k
  obtain ⟨z_18, h6, k⟩ := k
  obtain ⟨u_19, h7, k⟩ := k
  obtain ⟨z_20, h8, k⟩ := k
  obtain ⟨z_21, h9, k⟩ := k
  obtain ⟨z_22, h10, k⟩ := k
  obtain ⟨z_23, h11, k⟩ := k
  obtain ⟨u_24, h12, k⟩ := k
  have hle_u_24 : x_le u_24 u_24 := x_le.rf u_24
  have hle_u_19 : x_le u_19 u_24 := (h12.le).tr hle_u_24
  have hle_u_15 : x_le u_15 u_24 := (h7.le).tr hle_u_19
  have hle_u : x_le u u_24 := (h3.le).tr hle_u_15
  refine ⟨none, u_24, ⟨rfl, k⟩, hle_u, ?_⟩
  intro p e s m args below meth c A H locs ls F hw hl
  obtain ⟨⟨hx, hb, hml, hown, hts⟩, hr, hlocks, hmn⟩ := id F
  refine lv_aload_n hx hb d_T_start_0 rfl (lv_at hl 0 rfl) ?_
  refine lv_aload_n hx hb d_T_start_1 rfl (lv_at hl 0 rfl) ?_
  refine xr_get hx hb hts (xmu uws_T) hown hw h1 rfl (by decide) (hts _ (xm w_160)) (fun _ h9 => h9) d_T_start_2 ?_
  refine xr_get hx hb hts (xmu uws_N) hown hw h2 rfl (by decide) (hts _ (xm w_86)) (fun _ h9 => h9) d_T_start_5 ?_
  refine xr_put (ty := .int) hx hb hts (xmu uws_T) tyc_T tyc_T_ok nmc_T hown hw h3 rfl (by decide) (hts _ (xm w_161)) (fun _ h9 => h9) rfl (by decide +kernel) rfl rfl d_T_start_8 (fun H locs hw => ?_)
  refine lv_aload_n hx hb d_T_start_11 rfl (lv_at hl 0 rfl) ?_
  refine lv_aload_n hx hb d_T_start_12 rfl (lv_at hl 0 rfl) ?_
  refine xr_get hx hb hts (xmu uws_T) hown hw h4 rfl (by decide) (hts _ (xm w_160)) (fun _ h9 => h9) d_T_start_13 ?_
  refine xr_get hx hb hts (xmu uws_N) hown hw h5 rfl (by decide) (hts _ (xm w_79)) (fun _ h9 => h9) d_T_start_16 ?_
  refine lv_iload_n hx hb d_T_start_19 rfl (lv_at hl 1 rfl) ?_
  refine xr_iald hx hb hw h6 d_T_start_20 ?_
  refine xr_put (ty := .int) hx hb hts (xmu uws_T) tyc_T tyc_T_ok nmc_T hown hw h7 rfl (by decide) (hts _ (xm w_162)) (fun _ h9 => h9) rfl (by decide +kernel) rfl rfl d_T_start_21 (fun H locs hw => ?_)
  refine lv_aload_n hx hb d_T_start_24 rfl (lv_at hl 0 rfl) ?_
  refine xr_get hx hb hts (xmu uws_T) hown hw h8 rfl (by decide) (hts _ (xm w_160)) (fun _ h9 => h9) d_T_start_25 ?_
  refine xr_get hx hb hts (xmu uws_N) hown hw h9 rfl (by decide) (hts _ (xm w_75)) (fun _ h9 => h9) d_T_start_28 ?_
  refine lv_iconst (v := 0) hx hb d_T_start_31 (by decide) ?_
  refine lv_aload_n hx hb d_T_start_32 rfl (lv_at hl 0 rfl) ?_
  refine xr_get hx hb hts (xmu uws_T) hown hw h10 rfl (by decide) (hts _ (xm w_163)) (fun _ h9 => h9) d_T_start_33 ?_
  refine lv_iconst (v := 0) hx hb d_T_start_36 (by decide) ?_
  refine lv_aload_n hx hb d_T_start_37 rfl (lv_at hl 0 rfl) ?_
  refine xr_get hx hb hts (xmu uws_T) hown hw h11 rfl (by decide) (hts _ (xm w_161)) (fun _ h9 => h9) d_T_start_38 ?_
  refine xr_copy (rest := []) hx hb (hml.trans hl.1.symm) hown (hts _ (xm w_435)) (hts _ (xm w_307)) (hts _ (xm w_306)) (hts _ (xm w_15)) hw h12 (Nat.le_of_ble_eq_true rfl) (Nat.le_of_ble_eq_true rfl) d_T_start_41 (fun H locs hw => ?_)
  exact xr_vret F rfl hw d_T_start_44
set_option maxRecDepth 100000 in
set_option maxHeartbeats 4000000 in
theorem c_T_end (l : Launch) (Z : XZ) (x0 : Nat) (u : PS) (K : PS → Prop) (k : p_T_end x0 u K) : ∃ (rv : Option Value) (u1 : PS), (kV K) rv u1 ∧ XMet l Z i_T_end [.ref x0] u rv u1 := by
  refine x_met (by decide) rfl (Nat.le_of_ble_eq_true rfl) ?_
  show XN l Z i_T_end u (kV K) u 0 [(0, .ref x0)] []
  unfold p_T_end at k
  obtain ⟨z_4, h1, k⟩ := k
  obtain ⟨z_5, h2, k⟩ := k
  obtain ⟨h4, k⟩ := k
  obtain ⟨_, u_6, ⟨rfl, k⟩, hM3⟩ := c_N_forgetTried l Z z_4 z_5 u _ k
  have hle_u_6 : x_le u_6 u_6 := x_le.rf u_6
  have hle_u : x_le u u_6 := (hM3.1).tr hle_u_6
  refine ⟨none, u_6, ⟨rfl, k⟩, hle_u, ?_⟩
  intro p e s m args below meth c A H locs ls F hw hl
  obtain ⟨⟨hx, hb, hml, hown, hts⟩, hr, hlocks, hmn⟩ := id F
  refine lv_aload_n hx hb d_T_end_0 rfl (lv_at hl 0 rfl) ?_
  refine xr_get hx hb hts (xmu uws_T) hown hw h1 rfl (by decide) (hts _ (xm w_160)) (fun _ h9 => h9) d_T_end_1 ?_
  refine lv_aload_n hx hb d_T_end_4 rfl (lv_at hl 0 rfl) ?_
  refine xr_get hx hb hts (xmu uws_T) hown hw h2 rfl (by decide) (hts _ (xm w_161)) (fun _ h9 => h9) d_T_end_5 ?_
  refine xr_cV (As := [.int z_5]) (rest := []) ⟨hx, hb, hml, hown, hts⟩ hw hM3 hle_u_6 (fun _ _ => ⟨callB_of 1 hts (xgood w_456) rfl rfl rfl (hts _ (xm w_4)) (hts _ (xm w_453)) ⟨by decide, by decide, by decide +kernel⟩ ⟨Nat.le_of_ble_eq_true rfl, Nat.le_of_ble_eq_true rfl⟩, (hts _ (xm w_454)), (hts _ (xm w_455))⟩) (qc := (R_N, F_N, 13)) rfl rfl h4 rfl hl.1 rfl (Nat.le_of_ble_eq_true rfl) d_T_end_8 (fun H locs hw => ?_)
  refine W.eq (g2 := F0 m 11 ls []) rfl ?_
  exact xr_vret F rfl hw d_T_end_11
set_option maxRecDepth 100000 in
set_option maxHeartbeats 4000000 in
theorem t_T_startRising_L31 (l : Launch) (Z : XZ) (u0 : PS) {Kv : Option Value → PS → Prop} {E78 : PS → Prop} (x0 : Nat) (x2 : Nat) (hE78 : ∀ (v : PS), E78 v → XN l Z i_T_startRising u0 Kv v 78 [] []) : ∀ (n : Nat) (x3 : Int32) (u : PS), p_T_startRising_L31 x0 x2 E78 n x3 u → XN l Z i_T_startRising u0 Kv u 31 [(0, .ref x0), (2, .ref x2), (3, .int x3)] [] := by
  intro n
  induction n with
  | zero => intro x3 u k; exact False.elim k
  | succ n ih =>
    intro x3 u k
    rw [p_T_startRising_L31] at k
    obtain ⟨z_28, h1, k⟩ := k
    by_cases hc2 : z_28 ≤ x3
    · have k := k.1 hc2
      obtain ⟨rv, v9, hK, hle_u, w9⟩ := hE78 u k
      refine ⟨rv, v9, hK, hle_u, ?_⟩
      intro p e s m args below meth c A H locs ls F hw hl
      obtain ⟨⟨hx, hb, hml, hown, hts⟩, hr, hlocks, hmn⟩ := id F
      refine lv_iload_n hx hb d_T_startRising_31 rfl (lv_at hl 2 rfl) ?_
      refine lv_aload_n hx hb d_T_startRising_32 rfl (lv_at hl 0 rfl) ?_
      refine xr_get hx hb hts (xmu uws_T) hown hw h1 rfl (by decide) (hts _ (xm w_162)) (fun _ h9 => h9) d_T_startRising_33 ?_
      refine lv_icmp_ge (tgt := 78) hx hb d_T_startRising_36 (by decide) (fun _ => ?_) (fun c9 => absurd hc2 c9)
      exact w9 p e s m args below meth c A H locs ls F hw (lv_sub hl [] rfl)
    · have k := k.2 hc2
      obtain ⟨z_29, h3, k⟩ := k
      obtain ⟨z_30, h4, k⟩ := k
      obtain ⟨z_31, h5, k⟩ := k
      obtain ⟨u_32, h6, k⟩ := k
      obtain ⟨z_33, h7, k⟩ := k
      obtain ⟨z_34, h8, k⟩ := k
      obtain ⟨z_35, h9, k⟩ := k
      obtain ⟨z_36, h10, k⟩ := k
      obtain ⟨u_37, h11, k⟩ := k
      obtain ⟨y12, ey12⟩ : ∃ y9 : Int32, y9 = x3 + 1 := ⟨_, rfl⟩
      have k := k y12 ey12
      obtain ⟨rv, v9, hK, hle_u_37, w9⟩ := ih y12 u_37 k
      have hle_u_32 : x_le u_32 v9 := (h11.le).tr hle_u_37
      have hle_u : x_le u v9 := (h6.le).tr hle_u_32
      refine ⟨rv, v9, hK, hle_u, ?_⟩
      intro p e s m args below meth c A H locs ls F hw hl
      obtain ⟨⟨hx, hb, hml, hown, hts⟩, hr, hlocks, hmn⟩ := id F
      refine lv_iload_n hx hb d_T_startRising_31 rfl (lv_at hl 2 rfl) ?_
      refine lv_aload_n hx hb d_T_startRising_32 rfl (lv_at hl 0 rfl) ?_
      refine xr_get hx hb hts (xmu uws_T) hown hw h1 rfl (by decide) (hts _ (xm w_162)) (fun _ h9 => h9) d_T_startRising_33 ?_
      refine lv_icmp_ge (tgt := 78) hx hb d_T_startRising_36 (by decide) (fun c9 => absurd c9 hc2) (fun _ => ?_)
      refine lv_aload_n hx hb d_T_startRising_39 rfl (lv_at hl 1 rfl) ?_
      refine lv_iload_n hx hb d_T_startRising_40 rfl (lv_at hl 2 rfl) ?_
      refine xr_iald hx hb hw h3 d_T_startRising_41 ?_
      refine lv_istore (lv' := [(4, .int z_29), (0, .ref x0), (2, .ref x2), (3, .int x3)]) hx hb d_T_startRising_42 hl (by decide) rfl (fun ls hl => ?_)
      refine lv_aload_n hx hb d_T_startRising_44 rfl (lv_at hl 1 rfl) ?_
      refine xr_get hx hb hts (xmu uws_T) hown hw h4 rfl (by decide) (hts _ (xm w_164)) (fun _ h9 => h9) d_T_startRising_45 ?_
      refine lv_iload hx hb d_T_startRising_48 (lv_at hl 0 rfl) ?_
      refine lv_aload_n hx hb d_T_startRising_50 rfl (lv_at hl 1 rfl) ?_
      refine xr_get hx hb hts (xmu uws_T) hown hw h5 rfl (by decide) (hts _ (xm w_165)) (fun _ h9 => h9) d_T_startRising_51 ?_
      refine xr_iast hx hb hw h6 d_T_startRising_54 (fun H locs hw => ?_)
      refine lv_aload_n hx hb d_T_startRising_55 rfl (lv_at hl 1 rfl) ?_
      refine xr_get hx hb hts (xmu uws_T) hown hw h7 rfl (by decide) (hts _ (xm w_166)) (fun _ h9 => h9) d_T_startRising_56 ?_
      refine lv_iload hx hb d_T_startRising_59 (lv_at hl 0 rfl) ?_
      refine lv_aload_n hx hb d_T_startRising_61 rfl (lv_at hl 1 rfl) ?_
      refine xr_get hx hb hts (xmu uws_T) hown hw h8 rfl (by decide) (hts _ (xm w_160)) (fun _ h9 => h9) d_T_startRising_62 ?_
      refine xr_get hx hb hts (xmu uws_N) hown hw h9 rfl (by decide) (hts _ (xm w_73)) (fun _ h9 => h9) d_T_startRising_65 ?_
      refine lv_iload hx hb d_T_startRising_68 (lv_at hl 0 rfl) ?_
      refine xr_iald hx hb hw h10 d_T_startRising_70 ?_
      refine xr_iast hx hb hw h11 d_T_startRising_71 (fun H locs hw => ?_)
      refine lv_iinc (v := y12) (lv' := [(3, .int y12), (4, .int z_29), (0, .ref x0), (2, .ref x2)]) hx hb d_T_startRising_72 hl (k := 3) rfl (by subst ey12; rfl) (by decide) rfl (fun ls hl => ?_)
      refine lv_goto (tgt := 31) hx hb d_T_startRising_75 (by decide) ?_
      exact w9 p e s m args below meth c A H locs ls F hw (lv_sub hl [2, 3, 0] rfl)
set_option maxRecDepth 100000 in
set_option maxHeartbeats 4000000 in
theorem c_T_startRising (l : Launch) (Z : XZ) (x0 : Nat) (x1 : Int32) (u : PS) (K : PS → Prop) (k : p_T_startRising x0 x1 u K) : ∃ (rv : Option Value) (u1 : PS), (kV K) rv u1 ∧ XMet l Z i_T_startRising [.ref x0, .int x1] u rv u1 := by
  refine x_met (by decide) rfl (Nat.le_of_ble_eq_true rfl) ?_
  show XN l Z i_T_startRising u (kV K) u 0 [(0, .ref x0), (1, .int x1)] []
  unfold p_T_startRising at k
  obtain ⟨h2, k⟩ := k
  obtain ⟨_, u_21, ⟨rfl, k⟩, hM1⟩ := c_T_fitNodes l Z x0 u _ k
  obtain ⟨h4, k⟩ := k
  obtain ⟨_, u_22, ⟨rfl, k⟩, hM3⟩ := c_T_start l Z x0 x1 u_21 _ k
  obtain ⟨z_23, h5, k⟩ := k
  obtain ⟨u_24, h6, k⟩ := k
  obtain ⟨z_25, h7, k⟩ := k
  obtain ⟨z_26, h8, k⟩ := k
  obtain ⟨z_27, h9, k⟩ := k
  obtain ⟨n10, k⟩ := k
  have hx12 : ∀ (v11 : PS), (K v11) → XN l Z i_T_startRising u (kV K) v11 78 [] [] := by
    intro v11 k
    have hle_v11 : x_le v11 v11 := x_le.rf v11
    refine ⟨none, v11, ⟨rfl, k⟩, hle_v11, ?_⟩
    intro p e s m args below meth c A H locs ls F hw hl
    obtain ⟨⟨hx, hb, hml, hown, hts⟩, hr, hlocks, hmn⟩ := id F
    exact xr_vret F rfl hw d_T_startRising_78
  obtain ⟨rv, v9, hK, hle_u_24, w9⟩ := t_T_startRising_L31 l Z u x0 z_27 hx12 n10 (0 : Int32) u_24 k
  have hle_u_22 : x_le u_22 v9 := (h6.le).tr hle_u_24
  have hle_u_21 : x_le u_21 v9 := (hM3.1).tr hle_u_22
  have hle_u : x_le u v9 := (hM1.1).tr hle_u_21
  refine ⟨rv, v9, hK, hle_u, ?_⟩
  intro p e s m args below meth c A H locs ls F hw hl
  obtain ⟨⟨hx, hb, hml, hown, hts⟩, hr, hlocks, hmn⟩ := id F
  refine lv_aload_n hx hb d_T_startRising_0 rfl (lv_at hl 0 rfl) ?_
  refine xr_cV (As := []) (rest := []) ⟨hx, hb, hml, hown, hts⟩ hw hM1 hle_u_21 (fun _ _ => ⟨callB_of 0 hts (xgood w_429) rfl rfl rfl (hts _ (xm w_7)) (hts _ (xm w_426)) ⟨by decide, by decide, by decide +kernel⟩ ⟨Nat.le_of_ble_eq_true rfl, Nat.le_of_ble_eq_true rfl⟩, (hts _ (xm w_428)), (hts _ (xm wp_21))⟩) (qc := (R_T, F_T, 10)) rfl rfl h2 rfl hl.1 rfl (Nat.le_of_ble_eq_true rfl) d_T_startRising_1 (fun H locs hw => ?_)
  refine W.eq (g2 := F0 m 4 ls []) rfl ?_
  refine lv_aload_n hx hb d_T_startRising_4 rfl (lv_at hl 0 rfl) ?_
  refine lv_iload_n hx hb d_T_startRising_5 rfl (lv_at hl 1 rfl) ?_
  refine xr_cV (As := [.int x1]) (rest := []) ⟨hx, hb, hml, hown, hts⟩ hw hM3 hle_u_22 (fun _ _ => ⟨callB_of 1 hts (xgood w_434) rfl rfl rfl (hts _ (xm w_7)) (hts _ (xm w_431)) ⟨by decide, by decide, by decide +kernel⟩ ⟨Nat.le_of_ble_eq_true rfl, Nat.le_of_ble_eq_true rfl⟩, (hts _ (xm w_433)), (hts _ (xm wp_22))⟩) (qc := (R_T, F_T, 10)) rfl rfl h4 rfl hl.1 rfl (Nat.le_of_ble_eq_true rfl) d_T_startRising_6 (fun H locs hw => ?_)
  refine W.eq (g2 := F0 m 9 ls []) rfl ?_
  refine lv_aload_n hx hb d_T_startRising_9 rfl (lv_at hl 0 rfl) ?_
  refine lv_dup hx hb d_T_startRising_10 rfl ?_
  refine xr_get hx hb hts (xmu uws_T) hown hw h5 rfl (by decide) (hts _ (xm w_165)) (fun _ h9 => h9) d_T_startRising_11 ?_
  refine lv_iconst (v := 1) hx hb d_T_startRising_14 (by decide) ?_
  refine lv_iadd hx hb d_T_startRising_15 ?_
  refine xr_put (ty := .int) hx hb hts (xmu uws_T) tyc_T tyc_T_ok nmc_T hown hw h6 rfl (by decide) (hts _ (xm w_165)) (fun _ h9 => h9) rfl (by decide +kernel) rfl rfl d_T_startRising_16 (fun H locs hw => ?_)
  refine lv_aload_n hx hb d_T_startRising_19 rfl (lv_at hl 0 rfl) ?_
  refine xr_get hx hb hts (xmu uws_T) hown hw h7 rfl (by decide) (hts _ (xm w_160)) (fun _ h9 => h9) d_T_startRising_20 ?_
  refine xr_get hx hb hts (xmu uws_N) hown hw h8 rfl (by decide) (hts _ (xm w_77)) (fun _ h9 => h9) d_T_startRising_23 ?_
  refine lv_iload_n hx hb d_T_startRising_26 rfl (lv_at hl 1 rfl) ?_
  refine xr_aald hx hb hw rfl h9 d_T_startRising_27 ?_
  refine lv_astore_n (lv' := [(2, .ref z_27), (0, .ref x0), (1, .int x1)]) hx hb d_T_startRising_28 rfl hl (by decide) rfl (fun ls hl => ?_)
  refine lv_iconst (v := 0) hx hb d_T_startRising_29 (by decide) ?_
  refine lv_istore_n (lv' := [(3, .int 0), (2, .ref z_27), (0, .ref x0), (1, .int x1)]) hx hb d_T_startRising_30 rfl hl (by decide) rfl (fun ls hl => ?_)
  exact w9 p e s m args below meth c A H locs ls F hw (lv_sub hl [2, 1, 0] rfl)
set_option maxRecDepth 100000 in
set_option maxHeartbeats 4000000 in
theorem t_T_riseAbove_J356 (l : Launch) (Z : XZ) (u0 : PS) {Kv : Option Value → PS → Prop} {R : Int32 → Int32 → PS → Prop} {E362 : Int32 → PS → Prop} (x0 : Nat) (x1 : Int32) (x2 : Nat) (x3 : Nat) (x4 : Nat) (x5 : Int32) (x6 : Int32) (x7 : Int32) (x8 : Int32) (x9 : Int32) (u : PS) (hR : ∀ (y8 : Int32) (y9 : Int32) (v : PS), R y8 y9 v → XN l Z i_T_riseAbove u0 Kv v 86 [(0, .ref x0), (1, .int x1), (2, .ref x2), (3, .ref x3), (4, .ref x4), (5, .int x5), (6, .int x6), (7, .int x7), (8, .int y8), (9, .int y9)] []) (hE362 : ∀ (y8 : Int32) (v : PS), E362 y8 v → XN l Z i_T_riseAbove u0 Kv v 362 [(0, .ref x0), (7, .int x7), (8, .int y8)] []) (k : (p_T_riseAbove_J356 R E362 x0 x1 x2 x3 x4 x5 x6 x7 x8 x9 u)) : XN l Z i_T_riseAbove u0 Kv u 356 [(0, .ref x0), (1, .int x1), (2, .ref x2), (3, .ref x3), (4, .ref x4), (5, .int x5), (6, .int x6), (7, .int x7), (8, .int x8), (9, .int x9)] [] := by
  unfold p_T_riseAbove_J356 at k
  obtain ⟨y1, ey1⟩ : ∃ y9 : Int32, y9 = x9 + 1 := ⟨_, rfl⟩
  have k := k y1 ey1
  obtain ⟨rv, v9, hK, hle_u, w9⟩ := hR x8 y1 u k
  refine ⟨rv, v9, hK, hle_u, ?_⟩
  intro p e s m args below meth c A H locs ls F hw hl
  obtain ⟨⟨hx, hb, hml, hown, hts⟩, hr, hlocks, hmn⟩ := id F
  refine lv_iinc (v := y1) (lv' := [(9, .int y1), (0, .ref x0), (1, .int x1), (2, .ref x2), (3, .ref x3), (4, .ref x4), (5, .int x5), (6, .int x6), (7, .int x7), (8, .int x8)]) hx hb d_T_riseAbove_356 hl (k := 9) rfl (by subst ey1; rfl) (by decide) rfl (fun ls hl => ?_)
  refine lv_goto (tgt := 86) hx hb d_T_riseAbove_359 (by decide) ?_
  exact w9 p e s m args below meth c A H locs ls F hw (lv_sub hl [1, 2, 3, 4, 5, 6, 7, 8, 9, 0] rfl)
set_option maxRecDepth 100000 in
set_option maxHeartbeats 4000000 in
theorem t_T_riseAbove_J272 (l : Launch) (Z : XZ) (u0 : PS) {Kv : Option Value → PS → Prop} {R : Int32 → Int32 → PS → Prop} {E362 : Int32 → PS → Prop} (x0 : Nat) (x1 : Int32) (x2 : Nat) (x3 : Nat) (x4 : Nat) (x5 : Int32) (x6 : Int32) (x7 : Int32) (x8 : Int32) (x9 : Int32) (x10 : Int32) (x15 : Int32) (s0 : Int32) (u : PS) (hR : ∀ (y8 : Int32) (y9 : Int32) (v : PS), R y8 y9 v → XN l Z i_T_riseAbove u0 Kv v 86 [(0, .ref x0), (1, .int x1), (2, .ref x2), (3, .ref x3), (4, .ref x4), (5, .int x5), (6, .int x6), (7, .int x7), (8, .int y8), (9, .int y9)] []) (hE362 : ∀ (y8 : Int32) (v : PS), E362 y8 v → XN l Z i_T_riseAbove u0 Kv v 362 [(0, .ref x0), (7, .int x7), (8, .int y8)] []) (k : (p_T_riseAbove_J272 R E362 x0 x1 x2 x3 x4 x5 x6 x7 x8 x9 x10 x15 s0 u)) : XN l Z i_T_riseAbove u0 Kv u 272 [(0, .ref x0), (1, .int x1), (2, .ref x2), (3, .ref x3), (4, .ref x4), (5, .int x5), (6, .int x6), (7, .int x7), (8, .int x8), (9, .int x9), (10, .int x10), (15, .int x15)] [.int s0] := by
  unfold p_T_riseAbove_J272 at k
  obtain ⟨z_88, h1, k⟩ := k
  obtain ⟨h3, k⟩ := k
  obtain ⟨_, u_89, ⟨r_90, rfl, k⟩, hM2⟩ := c_N_triedFor l Z z_88 x1 (((x15.toUInt32 >>> ((14 : Int32).toUInt32 &&& Int32.toUInt32 31)).toInt32) &&& (16383 : Int32)) (((s0.toUInt32 >>> ((14 : Int32).toUInt32 &&& Int32.toUInt32 31)).toInt32) &&& (16383 : Int32)) u _ k
  obtain ⟨z_91, h4, k⟩ := k
  obtain ⟨h6, k⟩ := k
  obtain ⟨_, u_92, ⟨r_93, rfl, k⟩, hM5⟩ := c_N_triedFor l Z z_91 x1 (x15 &&& (16383 : Int32)) (s0 &&& (16383 : Int32)) u_89 _ k
  obtain ⟨u_94, h7, k⟩ := k
  obtain ⟨z_95, h8, k⟩ := k
  obtain ⟨u_96, h9, k⟩ := k
  obtain ⟨z_97, h10, k⟩ := k
  obtain ⟨u_98, h11, k⟩ := k
  obtain ⟨rv, v9, hK, hle_u_98, w9⟩ := t_T_riseAbove_J356 l Z u0 x0 x1 x2 x3 x4 x5 x6 x7 x8 x9 u_98 hR hE362 k
  have hle_u_96 : x_le u_96 v9 := (h11.le).tr hle_u_98
  have hle_u_94 : x_le u_94 v9 := (h9.le).tr hle_u_96
  have hle_u_92 : x_le u_92 v9 := (h7.le).tr hle_u_94
  have hle_u_89 : x_le u_89 v9 := (hM5.1).tr hle_u_92
  have hle_u : x_le u v9 := (hM2.1).tr hle_u_89
  refine ⟨rv, v9, hK, hle_u, ?_⟩
  intro p e s m args below meth c A H locs ls F hw hl
  obtain ⟨⟨hx, hb, hml, hown, hts⟩, hr, hlocks, hmn⟩ := id F
  refine lv_istore (lv' := [(16, .int s0), (0, .ref x0), (1, .int x1), (2, .ref x2), (3, .ref x3), (4, .ref x4), (5, .int x5), (6, .int x6), (7, .int x7), (8, .int x8), (9, .int x9), (10, .int x10), (15, .int x15)]) hx hb d_T_riseAbove_272 hl (by decide) rfl (fun ls hl => ?_)
  refine lv_aload_n hx hb d_T_riseAbove_274 rfl (lv_at hl 1 rfl) ?_
  refine xr_get hx hb hts (xmu uws_T) hown hw h1 rfl (by decide) (hts _ (xm w_160)) (fun _ h9 => h9) d_T_riseAbove_275 ?_
  refine lv_iload_n hx hb d_T_riseAbove_278 rfl (lv_at hl 2 rfl) ?_
  refine lv_iload hx hb d_T_riseAbove_279 (lv_at hl 12 rfl) ?_
  refine lv_bipush (v := 14) hx hb d_T_riseAbove_281 (by decide) ?_
  refine lv_iushr hx hb d_T_riseAbove_283 rfl ?_
  refine lv_sipush (v := 16383) hx hb d_T_riseAbove_284 (by decide) ?_
  refine lv_iand hx hb d_T_riseAbove_287 ?_
  refine lv_iload hx hb d_T_riseAbove_288 (lv_at hl 0 rfl) ?_
  refine lv_bipush (v := 14) hx hb d_T_riseAbove_290 (by decide) ?_
  refine lv_iushr hx hb d_T_riseAbove_292 rfl ?_
  refine lv_sipush (v := 16383) hx hb d_T_riseAbove_293 (by decide) ?_
  refine lv_iand hx hb d_T_riseAbove_296 ?_
  refine xr_cV (As := [.int x1, .int (((x15.toUInt32 >>> ((14 : Int32).toUInt32 &&& Int32.toUInt32 31)).toInt32) &&& (16383 : Int32)), .int (((s0.toUInt32 >>> ((14 : Int32).toUInt32 &&& Int32.toUInt32 31)).toInt32) &&& (16383 : Int32))]) (rest := []) ⟨hx, hb, hml, hown, hts⟩ hw hM2 hle_u_89 (fun _ _ => ⟨callB_of 3 hts (xgood w_448) rfl rfl rfl (hts _ (xm w_4)) (hts _ (xm w_445)) ⟨by decide, by decide, by decide +kernel⟩ ⟨Nat.le_of_ble_eq_true rfl, Nat.le_of_ble_eq_true rfl⟩, (hts _ (xm w_446)), (hts _ (xm w_447))⟩) (qc := (R_N, F_N, 13)) rfl rfl h3 rfl hl.1 rfl (Nat.le_of_ble_eq_true rfl) d_T_riseAbove_297 (fun H locs hw => ?_)
  refine W.eq (g2 := F0 m 300 ls [.int r_90]) rfl ?_
  refine lv_istore (lv' := [(17, .int r_90), (16, .int s0), (0, .ref x0), (1, .int x1), (2, .ref x2), (3, .ref x3), (4, .ref x4), (5, .int x5), (6, .int x6), (7, .int x7), (8, .int x8), (9, .int x9), (10, .int x10), (15, .int x15)]) hx hb d_T_riseAbove_300 hl (by decide) rfl (fun ls hl => ?_)
  refine lv_aload_n hx hb d_T_riseAbove_302 rfl (lv_at hl 2 rfl) ?_
  refine xr_get hx hb hts (xmu uws_T) hown hw h4 rfl (by decide) (hts _ (xm w_160)) (fun _ h9 => h9) d_T_riseAbove_303 ?_
  refine lv_iload_n hx hb d_T_riseAbove_306 rfl (lv_at hl 3 rfl) ?_
  refine lv_iload hx hb d_T_riseAbove_307 (lv_at hl 13 rfl) ?_
  refine lv_sipush (v := 16383) hx hb d_T_riseAbove_309 (by decide) ?_
  refine lv_iand hx hb d_T_riseAbove_312 ?_
  refine lv_iload hx hb d_T_riseAbove_313 (lv_at hl 1 rfl) ?_
  refine lv_sipush (v := 16383) hx hb d_T_riseAbove_315 (by decide) ?_
  refine lv_iand hx hb d_T_riseAbove_318 ?_
  refine xr_cV (As := [.int x1, .int (x15 &&& (16383 : Int32)), .int (s0 &&& (16383 : Int32))]) (rest := []) ⟨hx, hb, hml, hown, hts⟩ hw hM5 hle_u_92 (fun _ _ => ⟨callB_of 3 hts (xgood w_448) rfl rfl rfl (hts _ (xm w_4)) (hts _ (xm w_445)) ⟨by decide, by decide, by decide +kernel⟩ ⟨Nat.le_of_ble_eq_true rfl, Nat.le_of_ble_eq_true rfl⟩, (hts _ (xm w_446)), (hts _ (xm w_447))⟩) (qc := (R_N, F_N, 13)) rfl rfl h6 rfl hl.1 rfl (Nat.le_of_ble_eq_true rfl) d_T_riseAbove_319 (fun H locs hw => ?_)
  refine W.eq (g2 := F0 m 322 ls [.int r_93]) rfl ?_
  refine lv_istore (lv' := [(18, .int r_93), (17, .int r_90), (16, .int s0), (0, .ref x0), (1, .int x1), (2, .ref x2), (3, .ref x3), (4, .ref x4), (5, .int x5), (6, .int x6), (7, .int x7), (8, .int x8), (9, .int x9), (10, .int x10), (15, .int x15)]) hx hb d_T_riseAbove_322 hl (by decide) rfl (fun ls hl => ?_)
  refine lv_aload hx hb d_T_riseAbove_324 (lv_at hl 7 rfl) ?_
  refine lv_iload hx hb d_T_riseAbove_326 (lv_at hl 13 rfl) ?_
  refine lv_iload hx hb d_T_riseAbove_328 (lv_at hl 8 rfl) ?_
  refine xr_iast hx hb hw h7 d_T_riseAbove_330 (fun H locs hw => ?_)
  refine lv_aload_n hx hb d_T_riseAbove_331 rfl (lv_at hl 3 rfl) ?_
  refine xr_get hx hb hts (xmu uws_T) hown hw h8 rfl (by decide) (hts _ (xm w_166)) (fun _ h9 => h9) d_T_riseAbove_332 ?_
  refine lv_iload hx hb d_T_riseAbove_335 (lv_at hl 13 rfl) ?_
  refine lv_iload hx hb d_T_riseAbove_337 (lv_at hl 1 rfl) ?_
  refine lv_bipush (v := 14) hx hb d_T_riseAbove_339 (by decide) ?_
  refine lv_ishl hx hb d_T_riseAbove_341 ?_
  refine lv_iload hx hb d_T_riseAbove_342 (lv_at hl 0 rfl) ?_
  refine lv_ior hx hb d_T_riseAbove_344 ?_
  refine xr_iast hx hb hw h9 d_T_riseAbove_345 (fun H locs hw => ?_)
  refine lv_aload_n hx hb d_T_riseAbove_346 rfl (lv_at hl 3 rfl) ?_
  refine lv_dup hx hb d_T_riseAbove_347 rfl ?_
  refine xr_get hx hb hts (xmu uws_T) hown hw h10 rfl (by decide) (hts _ (xm w_162)) (fun _ h9 => h9) d_T_riseAbove_348 ?_
  refine lv_iconst (v := 1) hx hb d_T_riseAbove_351 (by decide) ?_
  refine lv_iadd hx hb d_T_riseAbove_352 ?_
  refine xr_put (ty := .int) hx hb hts (xmu uws_T) tyc_T tyc_T_ok nmc_T hown hw h11 rfl (by decide) (hts _ (xm w_162)) (fun _ h9 => h9) rfl (by decide +kernel) rfl rfl d_T_riseAbove_353 (fun H locs hw => ?_)
  exact w9 p e s m args below meth c A H locs ls F hw (lv_sub hl [3, 4, 5, 6, 7, 8, 9, 10, 11, 12] rfl)
set_option maxRecDepth 100000 in
set_option maxHeartbeats 4000000 in
theorem t_T_riseAbove_J247 (l : Launch) (Z : XZ) (u0 : PS) {Kv : Option Value → PS → Prop} {R : Int32 → Int32 → PS → Prop} {E362 : Int32 → PS → Prop} (x0 : Nat) (x1 : Int32) (x2 : Nat) (x3 : Nat) (x4 : Nat) (x5 : Int32) (x6 : Int32) (x7 : Int32) (x8 : Int32) (x9 : Int32) (x10 : Int32) (x12 : Int32) (x14 : Int32) (s0 : Int32) (u : PS) (hR : ∀ (y8 : Int32) (y9 : Int32) (v : PS), R y8 y9 v → XN l Z i_T_riseAbove u0 Kv v 86 [(0, .ref x0), (1, .int x1), (2, .ref x2), (3, .ref x3), (4, .ref x4), (5, .int x5), (6, .int x6), (7, .int x7), (8, .int y8), (9, .int y9)] []) (hE362 : ∀ (y8 : Int32) (v : PS), E362 y8 v → XN l Z i_T_riseAbove u0 Kv v 362 [(0, .ref x0), (7, .int x7), (8, .int y8)] []) (k : (p_T_riseAbove_J247 R E362 x0 x1 x2 x3 x4 x5 x6 x7 x8 x9 x10 x12 x14 s0 u)) : XN l Z i_T_riseAbove u0 Kv u 247 [(0, .ref x0), (1, .int x1), (2, .ref x2), (3, .ref x3), (4, .ref x4), (5, .int x5), (6, .int x6), (7, .int x7), (8, .int x8), (9, .int x9), (10, .int x10), (12, .int x12), (14, .int x14)] [.int s0] := by
  unfold p_T_riseAbove_J247 at k
  by_cases hc1 : x14 = 0
  · have k := k.1 hc1
    obtain ⟨rv, v9, hK, hle_u, w9⟩ := t_T_riseAbove_J272 l Z u0 x0 x1 x2 x3 x4 x5 x6 x7 x8 x9 x10 s0 ((x12 <<< ((14 : Int32) &&& 31)) ||| x12) u hR hE362 k
    refine ⟨rv, v9, hK, hle_u, ?_⟩
    intro p e s m args below meth c A H locs ls F hw hl
    obtain ⟨⟨hx, hb, hml, hown, hts⟩, hr, hlocks, hmn⟩ := id F
    refine lv_istore (lv' := [(15, .int s0), (0, .ref x0), (1, .int x1), (2, .ref x2), (3, .ref x3), (4, .ref x4), (5, .int x5), (6, .int x6), (7, .int x7), (8, .int x8), (9, .int x9), (10, .int x10), (12, .int x12), (14, .int x14)]) hx hb d_T_riseAbove_247 hl (by decide) rfl (fun ls hl => ?_)
    refine lv_iload hx hb d_T_riseAbove_249 (lv_at hl 13 rfl) ?_
    refine lv_if_eq (tgt := 264) hx hb d_T_riseAbove_251 (by decide) (fun _ => ?_) (fun c9 => absurd hc1 c9)
    refine lv_iload hx hb d_T_riseAbove_264 (lv_at hl 12 rfl) ?_
    refine lv_bipush (v := 14) hx hb d_T_riseAbove_266 (by decide) ?_
    refine lv_ishl hx hb d_T_riseAbove_268 ?_
    refine lv_iload hx hb d_T_riseAbove_269 (lv_at hl 12 rfl) ?_
    refine lv_ior hx hb d_T_riseAbove_271 ?_
    exact w9 p e s m args below meth c A H locs ls F hw (lv_sub hl [1, 2, 3, 4, 5, 6, 7, 8, 9, 10, 11, 0] rfl)
  · have k := k.2 hc1
    obtain ⟨z_99, h2, k⟩ := k
    obtain ⟨z_100, h3, k⟩ := k
    obtain ⟨rv, v9, hK, hle_u, w9⟩ := t_T_riseAbove_J272 l Z u0 x0 x1 x2 x3 x4 x5 x6 x7 x8 x9 x10 s0 z_100 u hR hE362 k
    refine ⟨rv, v9, hK, hle_u, ?_⟩
    intro p e s m args below meth c A H locs ls F hw hl
    obtain ⟨⟨hx, hb, hml, hown, hts⟩, hr, hlocks, hmn⟩ := id F
    refine lv_istore (lv' := [(15, .int s0), (0, .ref x0), (1, .int x1), (2, .ref x2), (3, .ref x3), (4, .ref x4), (5, .int x5), (6, .int x6), (7, .int x7), (8, .int x8), (9, .int x9), (10, .int x10), (12, .int x12), (14, .int x14)]) hx hb d_T_riseAbove_247 hl (by decide) rfl (fun ls hl => ?_)
    refine lv_iload hx hb d_T_riseAbove_249 (lv_at hl 13 rfl) ?_
    refine lv_if_eq (tgt := 264) hx hb d_T_riseAbove_251 (by decide) (fun c9 => absurd c9 hc1) (fun _ => ?_)
    refine lv_aload_n hx hb d_T_riseAbove_254 rfl (lv_at hl 1 rfl) ?_
    refine xr_get hx hb hts (xmu uws_T) hown hw h2 rfl (by decide) (hts _ (xm w_166)) (fun _ h9 => h9) d_T_riseAbove_255 ?_
    refine lv_iload hx hb d_T_riseAbove_258 (lv_at hl 12 rfl) ?_
    refine xr_iald hx hb hw h3 d_T_riseAbove_260 ?_
    refine lv_goto (tgt := 272) hx hb d_T_riseAbove_261 (by decide) ?_
    exact w9 p e s m args below meth c A H locs ls F hw (lv_sub hl [1, 2, 3, 4, 5, 6, 7, 8, 9, 10, 11, 0] rfl)
set_option maxRecDepth 100000 in
set_option maxHeartbeats 4000000 in
theorem t_T_riseAbove_J224 (l : Launch) (Z : XZ) (u0 : PS) {Kv : Option Value → PS → Prop} {R : Int32 → Int32 → PS → Prop} {E362 : Int32 → PS → Prop} (x0 : Nat) (x1 : Int32) (x2 : Nat) (x3 : Nat) (x4 : Nat) (x5 : Int32) (x6 : Int32) (x7 : Int32) (x8 : Int32) (x9 : Int32) (x10 : Int32) (x11 : Int32) (x12 : Int32) (x13 : Int32) (x14 : Int32) (u : PS) (hR : ∀ (y8 : Int32) (y9 : Int32) (v : PS), R y8 y9 v → XN l Z i_T_riseAbove u0 Kv v 86 [(0, .ref x0), (1, .int x1), (2, .ref x2), (3, .ref x3), (4, .ref x4), (5, .int x5), (6, .int x6), (7, .int x7), (8, .int y8), (9, .int y9)] []) (hE362 : ∀ (y8 : Int32) (v : PS), E362 y8 v → XN l Z i_T_riseAbove u0 Kv v 362 [(0, .ref x0), (7, .int x7), (8, .int y8)] []) (k : (p_T_riseAbove_J224 R E362 x0 x1 x2 x3 x4 x5 x6 x7 x8 x9 x10 x11 x12 x13 x14 u)) : XN l Z i_T_riseAbove u0 Kv u 224 [(0, .ref x0), (1, .int x1), (2, .ref x2), (3, .ref x3), (4, .ref x4), (5, .int x5), (6, .int x6), (7, .int x7), (8, .int x8), (9, .int x9), (10, .int x10), (11, .int x11), (12, .int x12), (13, .int x13), (14, .int x14)] [] := by
  unfold p_T_riseAbove_J224 at k
  by_cases hc1 : x13 = 0
  · have k := k.1 hc1
    obtain ⟨rv, v9, hK, hle_u, w9⟩ := t_T_riseAbove_J247 l Z u0 x0 x1 x2 x3 x4 x5 x6 x7 x8 x9 x10 x12 x14 ((x11 <<< ((14 : Int32) &&& 31)) ||| x11) u hR hE362 k
    refine ⟨rv, v9, hK, hle_u, ?_⟩
    intro p e s m args below meth c A H locs ls F hw hl
    obtain ⟨⟨hx, hb, hml, hown, hts⟩, hr, hlocks, hmn⟩ := id F
    refine lv_iload hx hb d_T_riseAbove_224 (lv_at hl 13 rfl) ?_
    refine lv_if_eq (tgt := 239) hx hb d_T_riseAbove_226 (by decide) (fun _ => ?_) (fun c9 => absurd hc1 c9)
    refine lv_iload hx hb d_T_riseAbove_239 (lv_at hl 11 rfl) ?_
    refine lv_bipush (v := 14) hx hb d_T_riseAbove_241 (by decide) ?_
    refine lv_ishl hx hb d_T_riseAbove_243 ?_
    refine lv_iload hx hb d_T_riseAbove_244 (lv_at hl 11 rfl) ?_
    refine lv_ior hx hb d_T_riseAbove_246 ?_
    exact w9 p e s m args below meth c A H locs ls F hw (lv_sub hl [0, 1, 2, 3, 4, 5, 6, 7, 8, 9, 10, 12, 14] rfl)
  · have k := k.2 hc1
    obtain ⟨z_101, h2, k⟩ := k
    obtain ⟨z_102, h3, k⟩ := k
    obtain ⟨rv, v9, hK, hle_u, w9⟩ := t_T_riseAbove_J247 l Z u0 x0 x1 x2 x3 x4 x5 x6 x7 x8 x9 x10 x12 x14 z_102 u hR hE362 k
    refine ⟨rv, v9, hK, hle_u, ?_⟩
    intro p e s m args below meth c A H locs ls F hw hl
    obtain ⟨⟨hx, hb, hml, hown, hts⟩, hr, hlocks, hmn⟩ := id F
    refine lv_iload hx hb d_T_riseAbove_224 (lv_at hl 13 rfl) ?_
    refine lv_if_eq (tgt := 239) hx hb d_T_riseAbove_226 (by decide) (fun c9 => absurd c9 hc1) (fun _ => ?_)
    refine lv_aload_n hx hb d_T_riseAbove_229 rfl (lv_at hl 0 rfl) ?_
    refine xr_get hx hb hts (xmu uws_T) hown hw h2 rfl (by decide) (hts _ (xm w_166)) (fun _ h9 => h9) d_T_riseAbove_230 ?_
    refine lv_iload hx hb d_T_riseAbove_233 (lv_at hl 11 rfl) ?_
    refine xr_iald hx hb hw h3 d_T_riseAbove_235 ?_
    refine lv_goto (tgt := 247) hx hb d_T_riseAbove_236 (by decide) ?_
    exact w9 p e s m args below meth c A H locs ls F hw (lv_sub hl [0, 1, 2, 3, 4, 5, 6, 7, 8, 9, 10, 12, 14] rfl)
set_option maxRecDepth 100000 in
set_option maxHeartbeats 4000000 in
theorem t_T_riseAbove_J195 (l : Launch) (Z : XZ) (u0 : PS) {Kv : Option Value → PS → Prop} {R : Int32 → Int32 → PS → Prop} {E362 : Int32 → PS → Prop} (x0 : Nat) (x1 : Int32) (x2 : Nat) (x3 : Nat) (x4 : Nat) (x5 : Int32) (x6 : Int32) (x7 : Int32) (x8 : Int32) (x9 : Int32) (x10 : Int32) (x11 : Int32) (x12 : Int32) (x13 : Int32) (x14 : Int32) (u : PS) (hR : ∀ (y8 : Int32) (y9 : Int32) (v : PS), R y8 y9 v → XN l Z i_T_riseAbove u0 Kv v 86 [(0, .ref x0), (1, .int x1), (2, .ref x2), (3, .ref x3), (4, .ref x4), (5, .int x5), (6, .int x6), (7, .int x7), (8, .int y8), (9, .int y9)] []) (hE362 : ∀ (y8 : Int32) (v : PS), E362 y8 v → XN l Z i_T_riseAbove u0 Kv v 362 [(0, .ref x0), (7, .int x7), (8, .int y8)] []) (k : (p_T_riseAbove_J195 R E362 x0 x1 x2 x3 x4 x5 x6 x7 x8 x9 x10 x11 x12 x13 x14 u)) : XN l Z i_T_riseAbove u0 Kv u 195 [(0, .ref x0), (1, .int x1), (2, .ref x2), (3, .ref x3), (4, .ref x4), (5, .int x5), (6, .int x6), (7, .int x7), (8, .int x8), (9, .int x9), (10, .int x10), (11, .int x11), (12, .int x12), (13, .int x13), (14, .int x14)] [] := by
  unfold p_T_riseAbove_J195 at k
  by_cases hc1 : x14 = 0
  · have k := k.1 hc1
    obtain ⟨rv, v9, hK, hle_u, w9⟩ := t_T_riseAbove_J224 l Z u0 x0 x1 x2 x3 x4 x5 x6 x7 x8 x9 x10 x11 x12 x13 x14 u hR hE362 k
    refine ⟨rv, v9, hK, hle_u, ?_⟩
    intro p e s m args below meth c A H locs ls F hw hl
    obtain ⟨⟨hx, hb, hml, hown, hts⟩, hr, hlocks, hmn⟩ := id F
    refine lv_iload hx hb d_T_riseAbove_195 (lv_at hl 14 rfl) ?_
    refine lv_if_eq (tgt := 224) hx hb d_T_riseAbove_197 (by decide) (fun _ => ?_) (fun c9 => absurd hc1 c9)
    exact w9 p e s m args below meth c A H locs ls F hw (lv_sub hl [0, 1, 2, 3, 4, 5, 6, 7, 8, 9, 10, 11, 12, 13, 14] rfl)
  · have k := k.2 hc1
    obtain ⟨z_103, h2, k⟩ := k
    obtain ⟨z_104, h3, k⟩ := k
    obtain ⟨u_105, h4, k⟩ := k
    obtain ⟨z_106, h5, k⟩ := k
    obtain ⟨z_107, h6, k⟩ := k
    by_cases hc7 : z_107 = 0
    · have k := k.2 hc7
      obtain ⟨y8, ey8⟩ : ∃ y9 : Int32, y9 = x8 + 1 := ⟨_, rfl⟩
      have k := k y8 ey8
      obtain ⟨rv, v9, hK, hle_u_105, w9⟩ := t_T_riseAbove_J224 l Z u0 x0 x1 x2 x3 x4 x5 x6 x7 y8 x9 x10 x11 x12 x13 x14 u_105 hR hE362 k
      have hle_u : x_le u v9 := (h4.le).tr hle_u_105
      refine ⟨rv, v9, hK, hle_u, ?_⟩
      intro p e s m args below meth c A H locs ls F hw hl
      obtain ⟨⟨hx, hb, hml, hown, hts⟩, hr, hlocks, hmn⟩ := id F
      refine lv_iload hx hb d_T_riseAbove_195 (lv_at hl 14 rfl) ?_
      refine lv_if_eq (tgt := 224) hx hb d_T_riseAbove_197 (by decide) (fun c9 => absurd c9 hc1) (fun _ => ?_)
      refine lv_aload_n hx hb d_T_riseAbove_200 rfl (lv_at hl 0 rfl) ?_
      refine xr_get hx hb hts (xmu uws_T) hown hw h2 rfl (by decide) (hts _ (xm w_163)) (fun _ h9 => h9) d_T_riseAbove_201 ?_
      refine lv_iload hx hb d_T_riseAbove_204 (lv_at hl 12 rfl) ?_
      refine lv_dup2_11 hx hb d_T_riseAbove_206 rfl rfl ?_
      refine xr_iald hx hb hw h3 d_T_riseAbove_207 ?_
      refine lv_iconst (v := 1) hx hb d_T_riseAbove_208 (by decide) ?_
      refine lv_isub hx hb d_T_riseAbove_209 ?_
      refine xr_iast hx hb hw h4 d_T_riseAbove_210 (fun H locs hw => ?_)
      refine lv_aload_n hx hb d_T_riseAbove_211 rfl (lv_at hl 0 rfl) ?_
      refine xr_get hx hb hts (xmu uws_T) hown hw h5 rfl (by decide) (hts _ (xm w_163)) (fun _ h9 => h9) d_T_riseAbove_212 ?_
      refine lv_iload hx hb d_T_riseAbove_215 (lv_at hl 12 rfl) ?_
      refine xr_iald hx hb hw h6 d_T_riseAbove_217 ?_
      refine lv_if_ne (tgt := 224) hx hb d_T_riseAbove_218 (by decide) (fun c9 => absurd hc7 c9) (fun _ => ?_)
      refine lv_iinc (v := y8) (lv' := [(8, .int y8), (0, .ref x0), (1, .int x1), (2, .ref x2), (3, .ref x3), (4, .ref x4), (5, .int x5), (6, .int x6), (7, .int x7), (9, .int x9), (10, .int x10), (11, .int x11), (12, .int x12), (13, .int x13), (14, .int x14)]) hx hb d_T_riseAbove_221 hl (k := 8) rfl (by subst ey8; rfl) (by decide) rfl (fun ls hl => ?_)
      exact w9 p e s m args below meth c A H locs ls F hw (lv_sub hl [1, 2, 3, 4, 5, 6, 7, 8, 0, 9, 10, 11, 12, 13, 14] rfl)
    · have k := k.1 hc7
      obtain ⟨rv, v9, hK, hle_u_105, w9⟩ := t_T_riseAbove_J224 l Z u0 x0 x1 x2 x3 x4 x5 x6 x7 x8 x9 x10 x11 x12 x13 x14 u_105 hR hE362 k
      have hle_u : x_le u v9 := (h4.le).tr hle_u_105
      refine ⟨rv, v9, hK, hle_u, ?_⟩
      intro p e s m args below meth c A H locs ls F hw hl
      obtain ⟨⟨hx, hb, hml, hown, hts⟩, hr, hlocks, hmn⟩ := id F
      refine lv_iload hx hb d_T_riseAbove_195 (lv_at hl 14 rfl) ?_
      refine lv_if_eq (tgt := 224) hx hb d_T_riseAbove_197 (by decide) (fun c9 => absurd c9 hc1) (fun _ => ?_)
      refine lv_aload_n hx hb d_T_riseAbove_200 rfl (lv_at hl 0 rfl) ?_
      refine xr_get hx hb hts (xmu uws_T) hown hw h2 rfl (by decide) (hts _ (xm w_163)) (fun _ h9 => h9) d_T_riseAbove_201 ?_
      refine lv_iload hx hb d_T_riseAbove_204 (lv_at hl 12 rfl) ?_
      refine lv_dup2_11 hx hb d_T_riseAbove_206 rfl rfl ?_
      refine xr_iald hx hb hw h3 d_T_riseAbove_207 ?_
      refine lv_iconst (v := 1) hx hb d_T_riseAbove_208 (by decide) ?_
      refine lv_isub hx hb d_T_riseAbove_209 ?_
      refine xr_iast hx hb hw h4 d_T_riseAbove_210 (fun H locs hw => ?_)
      refine lv_aload_n hx hb d_T_riseAbove_211 rfl (lv_at hl 0 rfl) ?_
      refine xr_get hx hb hts (xmu uws_T) hown hw h5 rfl (by decide) (hts _ (xm w_163)) (fun _ h9 => h9) d_T_riseAbove_212 ?_
      refine lv_iload hx hb d_T_riseAbove_215 (lv_at hl 12 rfl) ?_
      refine xr_iald hx hb hw h6 d_T_riseAbove_217 ?_
      refine lv_if_ne (tgt := 224) hx hb d_T_riseAbove_218 (by decide) (fun _ => ?_) (fun c9 => absurd c9 hc7)
      exact w9 p e s m args below meth c A H locs ls F hw (lv_sub hl [0, 1, 2, 3, 4, 5, 6, 7, 8, 9, 10, 11, 12, 13, 14] rfl)
set_option maxRecDepth 100000 in
set_option maxHeartbeats 4000000 in
theorem t_T_riseAbove_J166 (l : Launch) (Z : XZ) (u0 : PS) {Kv : Option Value → PS → Prop} {R : Int32 → Int32 → PS → Prop} {E362 : Int32 → PS → Prop} (x0 : Nat) (x1 : Int32) (x2 : Nat) (x3 : Nat) (x4 : Nat) (x5 : Int32) (x6 : Int32) (x7 : Int32) (x8 : Int32) (x9 : Int32) (x10 : Int32) (x11 : Int32) (x12 : Int32) (x13 : Int32) (x14 : Int32) (u : PS) (hR : ∀ (y8 : Int32) (y9 : Int32) (v : PS), R y8 y9 v → XN l Z i_T_riseAbove u0 Kv v 86 [(0, .ref x0), (1, .int x1), (2, .ref x2), (3, .ref x3), (4, .ref x4), (5, .int x5), (6, .int x6), (7, .int x7), (8, .int y8), (9, .int y9)] []) (hE362 : ∀ (y8 : Int32) (v : PS), E362 y8 v → XN l Z i_T_riseAbove u0 Kv v 362 [(0, .ref x0), (7, .int x7), (8, .int y8)] []) (k : (p_T_riseAbove_J166 R E362 x0 x1 x2 x3 x4 x5 x6 x7 x8 x9 x10 x11 x12 x13 x14 u)) : XN l Z i_T_riseAbove u0 Kv u 166 [(0, .ref x0), (1, .int x1), (2, .ref x2), (3, .ref x3), (4, .ref x4), (5, .int x5), (6, .int x6), (7, .int x7), (8, .int x8), (9, .int x9), (10, .int x10), (11, .int x11), (12, .int x12), (13, .int x13), (14, .int x14)] [] := by
  unfold p_T_riseAbove_J166 at k
  by_cases hc1 : x13 = 0
  · have k := k.1 hc1
    obtain ⟨rv, v9, hK, hle_u, w9⟩ := t_T_riseAbove_J195 l Z u0 x0 x1 x2 x3 x4 x5 x6 x7 x8 x9 x10 x11 x12 x13 x14 u hR hE362 k
    refine ⟨rv, v9, hK, hle_u, ?_⟩
    intro p e s m args below meth c A H locs ls F hw hl
    obtain ⟨⟨hx, hb, hml, hown, hts⟩, hr, hlocks, hmn⟩ := id F
    refine lv_iload hx hb d_T_riseAbove_166 (lv_at hl 13 rfl) ?_
    refine lv_if_eq (tgt := 195) hx hb d_T_riseAbove_168 (by decide) (fun _ => ?_) (fun c9 => absurd hc1 c9)
    exact w9 p e s m args below meth c A H locs ls F hw (lv_sub hl [0, 1, 2, 3, 4, 5, 6, 7, 8, 9, 10, 11, 12, 13, 14] rfl)
  · have k := k.2 hc1
    obtain ⟨z_108, h2, k⟩ := k
    obtain ⟨z_109, h3, k⟩ := k
    obtain ⟨u_110, h4, k⟩ := k
    obtain ⟨z_111, h5, k⟩ := k
    obtain ⟨z_112, h6, k⟩ := k
    by_cases hc7 : z_112 = 0
    · have k := k.2 hc7
      obtain ⟨y8, ey8⟩ : ∃ y9 : Int32, y9 = x8 + 1 := ⟨_, rfl⟩
      have k := k y8 ey8
      obtain ⟨rv, v9, hK, hle_u_110, w9⟩ := t_T_riseAbove_J195 l Z u0 x0 x1 x2 x3 x4 x5 x6 x7 y8 x9 x10 x11 x12 x13 x14 u_110 hR hE362 k
      have hle_u : x_le u v9 := (h4.le).tr hle_u_110
      refine ⟨rv, v9, hK, hle_u, ?_⟩
      intro p e s m args below meth c A H locs ls F hw hl
      obtain ⟨⟨hx, hb, hml, hown, hts⟩, hr, hlocks, hmn⟩ := id F
      refine lv_iload hx hb d_T_riseAbove_166 (lv_at hl 13 rfl) ?_
      refine lv_if_eq (tgt := 195) hx hb d_T_riseAbove_168 (by decide) (fun c9 => absurd c9 hc1) (fun _ => ?_)
      refine lv_aload_n hx hb d_T_riseAbove_171 rfl (lv_at hl 0 rfl) ?_
      refine xr_get hx hb hts (xmu uws_T) hown hw h2 rfl (by decide) (hts _ (xm w_163)) (fun _ h9 => h9) d_T_riseAbove_172 ?_
      refine lv_iload hx hb d_T_riseAbove_175 (lv_at hl 11 rfl) ?_
      refine lv_dup2_11 hx hb d_T_riseAbove_177 rfl rfl ?_
      refine xr_iald hx hb hw h3 d_T_riseAbove_178 ?_
      refine lv_iconst (v := 1) hx hb d_T_riseAbove_179 (by decide) ?_
      refine lv_isub hx hb d_T_riseAbove_180 ?_
      refine xr_iast hx hb hw h4 d_T_riseAbove_181 (fun H locs hw => ?_)
      refine lv_aload_n hx hb d_T_riseAbove_182 rfl (lv_at hl 0 rfl) ?_
      refine xr_get hx hb hts (xmu uws_T) hown hw h5 rfl (by decide) (hts _ (xm w_163)) (fun _ h9 => h9) d_T_riseAbove_183 ?_
      refine lv_iload hx hb d_T_riseAbove_186 (lv_at hl 11 rfl) ?_
      refine xr_iald hx hb hw h6 d_T_riseAbove_188 ?_
      refine lv_if_ne (tgt := 195) hx hb d_T_riseAbove_189 (by decide) (fun c9 => absurd hc7 c9) (fun _ => ?_)
      refine lv_iinc (v := y8) (lv' := [(8, .int y8), (0, .ref x0), (1, .int x1), (2, .ref x2), (3, .ref x3), (4, .ref x4), (5, .int x5), (6, .int x6), (7, .int x7), (9, .int x9), (10, .int x10), (11, .int x11), (12, .int x12), (13, .int x13), (14, .int x14)]) hx hb d_T_riseAbove_192 hl (k := 8) rfl (by subst ey8; rfl) (by decide) rfl (fun ls hl => ?_)
      exact w9 p e s m args below meth c A H locs ls F hw (lv_sub hl [1, 2, 3, 4, 5, 6, 7, 8, 0, 9, 10, 11, 12, 13, 14] rfl)
    · have k := k.1 hc7
      obtain ⟨rv, v9, hK, hle_u_110, w9⟩ := t_T_riseAbove_J195 l Z u0 x0 x1 x2 x3 x4 x5 x6 x7 x8 x9 x10 x11 x12 x13 x14 u_110 hR hE362 k
      have hle_u : x_le u v9 := (h4.le).tr hle_u_110
      refine ⟨rv, v9, hK, hle_u, ?_⟩
      intro p e s m args below meth c A H locs ls F hw hl
      obtain ⟨⟨hx, hb, hml, hown, hts⟩, hr, hlocks, hmn⟩ := id F
      refine lv_iload hx hb d_T_riseAbove_166 (lv_at hl 13 rfl) ?_
      refine lv_if_eq (tgt := 195) hx hb d_T_riseAbove_168 (by decide) (fun c9 => absurd c9 hc1) (fun _ => ?_)
      refine lv_aload_n hx hb d_T_riseAbove_171 rfl (lv_at hl 0 rfl) ?_
      refine xr_get hx hb hts (xmu uws_T) hown hw h2 rfl (by decide) (hts _ (xm w_163)) (fun _ h9 => h9) d_T_riseAbove_172 ?_
      refine lv_iload hx hb d_T_riseAbove_175 (lv_at hl 11 rfl) ?_
      refine lv_dup2_11 hx hb d_T_riseAbove_177 rfl rfl ?_
      refine xr_iald hx hb hw h3 d_T_riseAbove_178 ?_
      refine lv_iconst (v := 1) hx hb d_T_riseAbove_179 (by decide) ?_
      refine lv_isub hx hb d_T_riseAbove_180 ?_
      refine xr_iast hx hb hw h4 d_T_riseAbove_181 (fun H locs hw => ?_)
      refine lv_aload_n hx hb d_T_riseAbove_182 rfl (lv_at hl 0 rfl) ?_
      refine xr_get hx hb hts (xmu uws_T) hown hw h5 rfl (by decide) (hts _ (xm w_163)) (fun _ h9 => h9) d_T_riseAbove_183 ?_
      refine lv_iload hx hb d_T_riseAbove_186 (lv_at hl 11 rfl) ?_
      refine xr_iald hx hb hw h6 d_T_riseAbove_188 ?_
      refine lv_if_ne (tgt := 195) hx hb d_T_riseAbove_189 (by decide) (fun _ => ?_) (fun c9 => absurd c9 hc7)
      exact w9 p e s m args below meth c A H locs ls F hw (lv_sub hl [0, 1, 2, 3, 4, 5, 6, 7, 8, 9, 10, 11, 12, 13, 14] rfl)
set_option maxRecDepth 100000 in
set_option maxHeartbeats 4000000 in
theorem t_T_riseAbove_J154 (l : Launch) (Z : XZ) (u0 : PS) {Kv : Option Value → PS → Prop} {R : Int32 → Int32 → PS → Prop} {E362 : Int32 → PS → Prop} (x0 : Nat) (x1 : Int32) (x2 : Nat) (x3 : Nat) (x4 : Nat) (x5 : Int32) (x6 : Int32) (x7 : Int32) (x8 : Int32) (x9 : Int32) (x10 : Int32) (x11 : Int32) (x12 : Int32) (x13 : Int32) (s0 : Int32) (u : PS) (hR : ∀ (y8 : Int32) (y9 : Int32) (v : PS), R y8 y9 v → XN l Z i_T_riseAbove u0 Kv v 86 [(0, .ref x0), (1, .int x1), (2, .ref x2), (3, .ref x3), (4, .ref x4), (5, .int x5), (6, .int x6), (7, .int x7), (8, .int y8), (9, .int y9)] []) (hE362 : ∀ (y8 : Int32) (v : PS), E362 y8 v → XN l Z i_T_riseAbove u0 Kv v 362 [(0, .ref x0), (7, .int x7), (8, .int y8)] []) (k : (p_T_riseAbove_J154 R E362 x0 x1 x2 x3 x4 x5 x6 x7 x8 x9 x10 x11 x12 x13 s0 u)) : XN l Z i_T_riseAbove u0 Kv u 154 [(0, .ref x0), (1, .int x1), (2, .ref x2), (3, .ref x3), (4, .ref x4), (5, .int x5), (6, .int x6), (7, .int x7), (8, .int x8), (9, .int x9), (10, .int x10), (11, .int x11), (12, .int x12), (13, .int x13)] [.int s0] := by
  unfold p_T_riseAbove_J154 at k
  by_cases hc1 : x13 = 0
  · have k := k.2 hc1
    by_cases hc2 : s0 = 0
    · have k := k.1 hc2
      obtain ⟨rv, v9, hK, hle_u, w9⟩ := t_T_riseAbove_J356 l Z u0 x0 x1 x2 x3 x4 x5 x6 x7 x8 x9 u hR hE362 k
      refine ⟨rv, v9, hK, hle_u, ?_⟩
      intro p e s m args below meth c A H locs ls F hw hl
      obtain ⟨⟨hx, hb, hml, hown, hts⟩, hr, hlocks, hmn⟩ := id F
      refine lv_istore (lv' := [(14, .int s0), (0, .ref x0), (1, .int x1), (2, .ref x2), (3, .ref x3), (4, .ref x4), (5, .int x5), (6, .int x6), (7, .int x7), (8, .int x8), (9, .int x9), (10, .int x10), (11, .int x11), (12, .int x12), (13, .int x13)]) hx hb d_T_riseAbove_154 hl (by decide) rfl (fun ls hl => ?_)
      refine lv_iload hx hb d_T_riseAbove_156 (lv_at hl 14 rfl) ?_
      refine lv_if_ne (tgt := 166) hx hb d_T_riseAbove_158 (by decide) (fun c9 => absurd hc1 c9) (fun _ => ?_)
      refine lv_iload hx hb d_T_riseAbove_161 (lv_at hl 0 rfl) ?_
      refine lv_if_eq (tgt := 356) hx hb d_T_riseAbove_163 (by decide) (fun _ => ?_) (fun c9 => absurd hc2 c9)
      exact w9 p e s m args below meth c A H locs ls F hw (lv_sub hl [1, 2, 3, 4, 5, 6, 7, 8, 9, 10] rfl)
    · have k := k.2 hc2
      obtain ⟨rv, v9, hK, hle_u, w9⟩ := t_T_riseAbove_J166 l Z u0 x0 x1 x2 x3 x4 x5 x6 x7 x8 x9 x10 x11 x12 x13 s0 u hR hE362 k
      refine ⟨rv, v9, hK, hle_u, ?_⟩
      intro p e s m args below meth c A H locs ls F hw hl
      obtain ⟨⟨hx, hb, hml, hown, hts⟩, hr, hlocks, hmn⟩ := id F
      refine lv_istore (lv' := [(14, .int s0), (0, .ref x0), (1, .int x1), (2, .ref x2), (3, .ref x3), (4, .ref x4), (5, .int x5), (6, .int x6), (7, .int x7), (8, .int x8), (9, .int x9), (10, .int x10), (11, .int x11), (12, .int x12), (13, .int x13)]) hx hb d_T_riseAbove_154 hl (by decide) rfl (fun ls hl => ?_)
      refine lv_iload hx hb d_T_riseAbove_156 (lv_at hl 14 rfl) ?_
      refine lv_if_ne (tgt := 166) hx hb d_T_riseAbove_158 (by decide) (fun c9 => absurd hc1 c9) (fun _ => ?_)
      refine lv_iload hx hb d_T_riseAbove_161 (lv_at hl 0 rfl) ?_
      refine lv_if_eq (tgt := 356) hx hb d_T_riseAbove_163 (by decide) (fun c9 => absurd c9 hc2) (fun _ => ?_)
      exact w9 p e s m args below meth c A H locs ls F hw (lv_sub hl [1, 2, 3, 4, 5, 6, 7, 8, 9, 10, 11, 12, 13, 14, 0] rfl)
  · have k := k.1 hc1
    obtain ⟨rv, v9, hK, hle_u, w9⟩ := t_T_riseAbove_J166 l Z u0 x0 x1 x2 x3 x4 x5 x6 x7 x8 x9 x10 x11 x12 x13 s0 u hR hE362 k
    refine ⟨rv, v9, hK, hle_u, ?_⟩
    intro p e s m args below meth c A H locs ls F hw hl
    obtain ⟨⟨hx, hb, hml, hown, hts⟩, hr, hlocks, hmn⟩ := id F
    refine lv_istore (lv' := [(14, .int s0), (0, .ref x0), (1, .int x1), (2, .ref x2), (3, .ref x3), (4, .ref x4), (5, .int x5), (6, .int x6), (7, .int x7), (8, .int x8), (9, .int x9), (10, .int x10), (11, .int x11), (12, .int x12), (13, .int x13)]) hx hb d_T_riseAbove_154 hl (by decide) rfl (fun ls hl => ?_)
    refine lv_iload hx hb d_T_riseAbove_156 (lv_at hl 14 rfl) ?_
    refine lv_if_ne (tgt := 166) hx hb d_T_riseAbove_158 (by decide) (fun _ => ?_) (fun c9 => absurd c9 hc1)
    exact w9 p e s m args below meth c A H locs ls F hw (lv_sub hl [1, 2, 3, 4, 5, 6, 7, 8, 9, 10, 11, 12, 13, 14, 0] rfl)
set_option maxRecDepth 100000 in
set_option maxHeartbeats 4000000 in
theorem t_T_riseAbove_J137 (l : Launch) (Z : XZ) (u0 : PS) {Kv : Option Value → PS → Prop} {R : Int32 → Int32 → PS → Prop} {E362 : Int32 → PS → Prop} (x0 : Nat) (x1 : Int32) (x2 : Nat) (x3 : Nat) (x4 : Nat) (x5 : Int32) (x6 : Int32) (x7 : Int32) (x8 : Int32) (x9 : Int32) (x10 : Int32) (x11 : Int32) (x12 : Int32) (s0 : Int32) (u : PS) (hR : ∀ (y8 : Int32) (y9 : Int32) (v : PS), R y8 y9 v → XN l Z i_T_riseAbove u0 Kv v 86 [(0, .ref x0), (1, .int x1), (2, .ref x2), (3, .ref x3), (4, .ref x4), (5, .int x5), (6, .int x6), (7, .int x7), (8, .int y8), (9, .int y9)] []) (hE362 : ∀ (y8 : Int32) (v : PS), E362 y8 v → XN l Z i_T_riseAbove u0 Kv v 362 [(0, .ref x0), (7, .int x7), (8, .int y8)] []) (k : (p_T_riseAbove_J137 R E362 x0 x1 x2 x3 x4 x5 x6 x7 x8 x9 x10 x11 x12 s0 u)) : XN l Z i_T_riseAbove u0 Kv u 137 [(0, .ref x0), (1, .int x1), (2, .ref x2), (3, .ref x3), (4, .ref x4), (5, .int x5), (6, .int x6), (7, .int x7), (8, .int x8), (9, .int x9), (10, .int x10), (11, .int x11), (12, .int x12)] [.int s0] := by
  unfold p_T_riseAbove_J137 at k
  obtain ⟨z_87, h1, k⟩ := k
  by_cases hc2 : z_87 = x5
  · have k := k.2 hc2
    obtain ⟨rv, v9, hK, hle_u, w9⟩ := t_T_riseAbove_J154 l Z u0 x0 x1 x2 x3 x4 x5 x6 x7 x8 x9 x10 x11 x12 s0 (1 : Int32) u hR hE362 k
    refine ⟨rv, v9, hK, hle_u, ?_⟩
    intro p e s m args below meth c A H locs ls F hw hl
    obtain ⟨⟨hx, hb, hml, hown, hts⟩, hr, hlocks, hmn⟩ := id F
    refine lv_istore (lv' := [(13, .int s0), (0, .ref x0), (1, .int x1), (2, .ref x2), (3, .ref x3), (4, .ref x4), (5, .int x5), (6, .int x6), (7, .int x7), (8, .int x8), (9, .int x9), (10, .int x10), (11, .int x11), (12, .int x12)]) hx hb d_T_riseAbove_137 hl (by decide) rfl (fun ls hl => ?_)
    refine lv_aload hx hb d_T_riseAbove_139 (lv_at hl 5 rfl) ?_
    refine lv_iload hx hb d_T_riseAbove_141 (lv_at hl 13 rfl) ?_
    refine xr_iald hx hb hw h1 d_T_riseAbove_143 ?_
    refine lv_iload hx hb d_T_riseAbove_144 (lv_at hl 6 rfl) ?_
    refine lv_icmp_ne (tgt := 153) hx hb d_T_riseAbove_146 (by decide) (fun c9 => absurd hc2 c9) (fun _ => ?_)
    refine lv_iconst (v := 1) hx hb d_T_riseAbove_149 (by decide) ?_
    refine lv_goto (tgt := 154) hx hb d_T_riseAbove_150 (by decide) ?_
    exact w9 p e s m args below meth c A H locs ls F hw (lv_sub hl [1, 2, 3, 4, 5, 6, 7, 8, 9, 10, 11, 12, 13, 0] rfl)
  · have k := k.1 hc2
    obtain ⟨rv, v9, hK, hle_u, w9⟩ := t_T_riseAbove_J154 l Z u0 x0 x1 x2 x3 x4 x5 x6 x7 x8 x9 x10 x11 x12 s0 (0 : Int32) u hR hE362 k
    refine ⟨rv, v9, hK, hle_u, ?_⟩
    intro p e s m args below meth c A H locs ls F hw hl
    obtain ⟨⟨hx, hb, hml, hown, hts⟩, hr, hlocks, hmn⟩ := id F
    refine lv_istore (lv' := [(13, .int s0), (0, .ref x0), (1, .int x1), (2, .ref x2), (3, .ref x3), (4, .ref x4), (5, .int x5), (6, .int x6), (7, .int x7), (8, .int x8), (9, .int x9), (10, .int x10), (11, .int x11), (12, .int x12)]) hx hb d_T_riseAbove_137 hl (by decide) rfl (fun ls hl => ?_)
    refine lv_aload hx hb d_T_riseAbove_139 (lv_at hl 5 rfl) ?_
    refine lv_iload hx hb d_T_riseAbove_141 (lv_at hl 13 rfl) ?_
    refine xr_iald hx hb hw h1 d_T_riseAbove_143 ?_
    refine lv_iload hx hb d_T_riseAbove_144 (lv_at hl 6 rfl) ?_
    refine lv_icmp_ne (tgt := 153) hx hb d_T_riseAbove_146 (by decide) (fun _ => ?_) (fun c9 => absurd c9 hc2)
    refine lv_iconst (v := 0) hx hb d_T_riseAbove_153 (by decide) ?_
    exact w9 p e s m args below meth c A H locs ls F hw (lv_sub hl [1, 2, 3, 4, 5, 6, 7, 8, 9, 10, 11, 12, 13, 0] rfl)
set_option maxRecDepth 100000 in
set_option maxHeartbeats 4000000 in
theorem t_T_riseAbove_L86 (l : Launch) (Z : XZ) (u0 : PS) {Kv : Option Value → PS → Prop} {E362 : Int32 → PS → Prop} (x0 : Nat) (x1 : Int32) (x2 : Nat) (x3 : Nat) (x4 : Nat) (x5 : Int32) (x6 : Int32) (x7 : Int32) (hE362 : ∀ (y8 : Int32) (v : PS), E362 y8 v → XN l Z i_T_riseAbove u0 Kv v 362 [(0, .ref x0), (7, .int x7), (8, .int y8)] []) : ∀ (n : Nat) (x8 : Int32) (x9 : Int32) (u : PS), p_T_riseAbove_L86 x0 x1 x2 x3 x4 x5 x6 x7 E362 n x8 x9 u → XN l Z i_T_riseAbove u0 Kv u 86 [(0, .ref x0), (1, .int x1), (2, .ref x2), (3, .ref x3), (4, .ref x4), (5, .int x5), (6, .int x6), (7, .int x7), (8, .int x8), (9, .int x9)] [] := by
  intro n
  induction n with
  | zero => intro x8 x9 u k; exact False.elim k
  | succ n ih =>
    intro x8 x9 u k
    rw [p_T_riseAbove_L86] at k
    by_cases hc1 : x6 ≤ x9
    · have k := k.1 hc1
      obtain ⟨rv, v9, hK, hle_u, w9⟩ := hE362 x8 u k
      refine ⟨rv, v9, hK, hle_u, ?_⟩
      intro p e s m args below meth c A H locs ls F hw hl
      obtain ⟨⟨hx, hb, hml, hown, hts⟩, hr, hlocks, hmn⟩ := id F
      refine lv_iload hx hb d_T_riseAbove_86 (lv_at hl 9 rfl) ?_
      refine lv_iload hx hb d_T_riseAbove_88 (lv_at hl 6 rfl) ?_
      refine lv_icmp_ge (tgt := 362) hx hb d_T_riseAbove_90 (by decide) (fun _ => ?_) (fun c9 => absurd hc1 c9)
      exact w9 p e s m args below meth c A H locs ls F hw (lv_sub hl [0, 7, 8] rfl)
    · have k := k.2 hc1
      obtain ⟨z_83, h2, k⟩ := k
      obtain ⟨z_84, h3, k⟩ := k
      obtain ⟨y4, ey4⟩ : ∃ y9 : Int32, y9 = (((z_84.toUInt32 >>> ((14 : Int32).toUInt32 &&& Int32.toUInt32 31)).toInt32) &&& (16383 : Int32)) := ⟨_, rfl⟩
      have k := k y4 ey4
      obtain ⟨z_85, h5, k⟩ := k
      obtain ⟨y6, ey6⟩ : ∃ y9 : Int32, y9 = (z_85 &&& (16383 : Int32)) := ⟨_, rfl⟩
      have k := k y6 ey6
      obtain ⟨z_86, h7, k⟩ := k
      by_cases hc8 : z_86 = x5
      · have k := k.2 hc8
        obtain ⟨rv, v9, hK, hle_u, w9⟩ := t_T_riseAbove_J137 l Z u0 x0 x1 x2 x3 x4 x5 x6 x7 x8 x9 z_83 y4 y6 (1 : Int32) u ih hE362 k
        refine ⟨rv, v9, hK, hle_u, ?_⟩
        intro p e s m args below meth c A H locs ls F hw hl
        obtain ⟨⟨hx, hb, hml, hown, hts⟩, hr, hlocks, hmn⟩ := id F
        refine lv_iload hx hb d_T_riseAbove_86 (lv_at hl 9 rfl) ?_
        refine lv_iload hx hb d_T_riseAbove_88 (lv_at hl 6 rfl) ?_
        refine lv_icmp_ge (tgt := 362) hx hb d_T_riseAbove_90 (by decide) (fun c9 => absurd c9 hc1) (fun _ => ?_)
        refine lv_aload_n hx hb d_T_riseAbove_93 rfl (lv_at hl 3 rfl) ?_
        refine lv_iload hx hb d_T_riseAbove_94 (lv_at hl 9 rfl) ?_
        refine xr_iald hx hb hw h2 d_T_riseAbove_96 ?_
        refine lv_istore (lv' := [(10, .int z_83), (0, .ref x0), (1, .int x1), (2, .ref x2), (3, .ref x3), (4, .ref x4), (5, .int x5), (6, .int x6), (7, .int x7), (8, .int x8), (9, .int x9)]) hx hb d_T_riseAbove_97 hl (by decide) rfl (fun ls hl => ?_)
        refine lv_aload_n hx hb d_T_riseAbove_99 rfl (lv_at hl 3 rfl) ?_
        refine lv_iload hx hb d_T_riseAbove_100 (lv_at hl 0 rfl) ?_
        refine xr_iald hx hb hw h3 d_T_riseAbove_102 ?_
        refine lv_bipush (v := 14) hx hb d_T_riseAbove_103 (by decide) ?_
        refine lv_iushr hx hb d_T_riseAbove_105 rfl ?_
        refine lv_sipush (v := 16383) hx hb d_T_riseAbove_106 (by decide) ?_
        refine lv_iand hx hb d_T_riseAbove_109 ?_
        refine lv_istore (lv' := [(11, .int y4), (10, .int z_83), (0, .ref x0), (1, .int x1), (2, .ref x2), (3, .ref x3), (4, .ref x4), (5, .int x5), (6, .int x6), (7, .int x7), (8, .int x8), (9, .int x9)]) hx hb d_T_riseAbove_110 hl (by decide) (by subst ey4; rfl) (fun ls hl => ?_)
        refine lv_aload_n hx hb d_T_riseAbove_112 rfl (lv_at hl 4 rfl) ?_
        refine lv_iload hx hb d_T_riseAbove_113 (lv_at hl 1 rfl) ?_
        refine xr_iald hx hb hw h5 d_T_riseAbove_115 ?_
        refine lv_sipush (v := 16383) hx hb d_T_riseAbove_116 (by decide) ?_
        refine lv_iand hx hb d_T_riseAbove_119 ?_
        refine lv_istore (lv' := [(12, .int y6), (11, .int y4), (10, .int z_83), (0, .ref x0), (1, .int x1), (2, .ref x2), (3, .ref x3), (4, .ref x4), (5, .int x5), (6, .int x6), (7, .int x7), (8, .int x8), (9, .int x9)]) hx hb d_T_riseAbove_120 hl (by decide) (by subst ey6; rfl) (fun ls hl => ?_)
        refine lv_aload hx hb d_T_riseAbove_122 (lv_at hl 7 rfl) ?_
        refine lv_iload hx hb d_T_riseAbove_124 (lv_at hl 1 rfl) ?_
        refine xr_iald hx hb hw h7 d_T_riseAbove_126 ?_
        refine lv_iload hx hb d_T_riseAbove_127 (lv_at hl 8 rfl) ?_
        refine lv_icmp_ne (tgt := 136) hx hb d_T_riseAbove_129 (by decide) (fun c9 => absurd hc8 c9) (fun _ => ?_)
        refine lv_iconst (v := 1) hx hb d_T_riseAbove_132 (by decide) ?_
        refine lv_goto (tgt := 137) hx hb d_T_riseAbove_133 (by decide) ?_
        exact w9 p e s m args below meth c A H locs ls F hw (lv_sub hl [3, 4, 5, 6, 7, 8, 9, 10, 11, 12, 2, 1, 0] rfl)
      · have k := k.1 hc8
        obtain ⟨rv, v9, hK, hle_u, w9⟩ := t_T_riseAbove_J137 l Z u0 x0 x1 x2 x3 x4 x5 x6 x7 x8 x9 z_83 y4 y6 (0 : Int32) u ih hE362 k
        refine ⟨rv, v9, hK, hle_u, ?_⟩
        intro p e s m args below meth c A H locs ls F hw hl
        obtain ⟨⟨hx, hb, hml, hown, hts⟩, hr, hlocks, hmn⟩ := id F
        refine lv_iload hx hb d_T_riseAbove_86 (lv_at hl 9 rfl) ?_
        refine lv_iload hx hb d_T_riseAbove_88 (lv_at hl 6 rfl) ?_
        refine lv_icmp_ge (tgt := 362) hx hb d_T_riseAbove_90 (by decide) (fun c9 => absurd c9 hc1) (fun _ => ?_)
        refine lv_aload_n hx hb d_T_riseAbove_93 rfl (lv_at hl 3 rfl) ?_
        refine lv_iload hx hb d_T_riseAbove_94 (lv_at hl 9 rfl) ?_
        refine xr_iald hx hb hw h2 d_T_riseAbove_96 ?_
        refine lv_istore (lv' := [(10, .int z_83), (0, .ref x0), (1, .int x1), (2, .ref x2), (3, .ref x3), (4, .ref x4), (5, .int x5), (6, .int x6), (7, .int x7), (8, .int x8), (9, .int x9)]) hx hb d_T_riseAbove_97 hl (by decide) rfl (fun ls hl => ?_)
        refine lv_aload_n hx hb d_T_riseAbove_99 rfl (lv_at hl 3 rfl) ?_
        refine lv_iload hx hb d_T_riseAbove_100 (lv_at hl 0 rfl) ?_
        refine xr_iald hx hb hw h3 d_T_riseAbove_102 ?_
        refine lv_bipush (v := 14) hx hb d_T_riseAbove_103 (by decide) ?_
        refine lv_iushr hx hb d_T_riseAbove_105 rfl ?_
        refine lv_sipush (v := 16383) hx hb d_T_riseAbove_106 (by decide) ?_
        refine lv_iand hx hb d_T_riseAbove_109 ?_
        refine lv_istore (lv' := [(11, .int y4), (10, .int z_83), (0, .ref x0), (1, .int x1), (2, .ref x2), (3, .ref x3), (4, .ref x4), (5, .int x5), (6, .int x6), (7, .int x7), (8, .int x8), (9, .int x9)]) hx hb d_T_riseAbove_110 hl (by decide) (by subst ey4; rfl) (fun ls hl => ?_)
        refine lv_aload_n hx hb d_T_riseAbove_112 rfl (lv_at hl 4 rfl) ?_
        refine lv_iload hx hb d_T_riseAbove_113 (lv_at hl 1 rfl) ?_
        refine xr_iald hx hb hw h5 d_T_riseAbove_115 ?_
        refine lv_sipush (v := 16383) hx hb d_T_riseAbove_116 (by decide) ?_
        refine lv_iand hx hb d_T_riseAbove_119 ?_
        refine lv_istore (lv' := [(12, .int y6), (11, .int y4), (10, .int z_83), (0, .ref x0), (1, .int x1), (2, .ref x2), (3, .ref x3), (4, .ref x4), (5, .int x5), (6, .int x6), (7, .int x7), (8, .int x8), (9, .int x9)]) hx hb d_T_riseAbove_120 hl (by decide) (by subst ey6; rfl) (fun ls hl => ?_)
        refine lv_aload hx hb d_T_riseAbove_122 (lv_at hl 7 rfl) ?_
        refine lv_iload hx hb d_T_riseAbove_124 (lv_at hl 1 rfl) ?_
        refine xr_iald hx hb hw h7 d_T_riseAbove_126 ?_
        refine lv_iload hx hb d_T_riseAbove_127 (lv_at hl 8 rfl) ?_
        refine lv_icmp_ne (tgt := 136) hx hb d_T_riseAbove_129 (by decide) (fun _ => ?_) (fun c9 => absurd c9 hc8)
        refine lv_iconst (v := 0) hx hb d_T_riseAbove_136 (by decide) ?_
        exact w9 p e s m args below meth c A H locs ls F hw (lv_sub hl [3, 4, 5, 6, 7, 8, 9, 10, 11, 12, 2, 1, 0] rfl)
set_option maxRecDepth 100000 in
set_option maxHeartbeats 4000000 in
theorem t_T_riseAbove_J362 (l : Launch) (Z : XZ) (u0 : PS) {K : Int32 → PS → Prop} (x0 : Nat) (x7 : Int32) (x8 : Int32) (u : PS) (k : (p_T_riseAbove_J362 K x0 x7 x8 u)) : XN l Z i_T_riseAbove u0 (kI K) u 362 [(0, .ref x0), (7, .int x7), (8, .int x8)] [] := by
  unfold p_T_riseAbove_J362 at k
  obtain ⟨z_113, h1, k⟩ := k
  obtain ⟨u_114, h2, k⟩ := k
  obtain ⟨z_115, h3, k⟩ := k
  obtain ⟨z_116, h4, k⟩ := k
  have hle_u_114 : x_le u_114 u_114 := x_le.rf u_114
  have hle_u : x_le u u_114 := (h2.le).tr hle_u_114
  refine ⟨some (.int ((z_116 - x7) - x8)), u_114, ⟨((z_116 - x7) - x8), rfl, k⟩, hle_u, ?_⟩
  intro p e s m args below meth c A H locs ls F hw hl
  obtain ⟨⟨hx, hb, hml, hown, hts⟩, hr, hlocks, hmn⟩ := id F
  refine lv_aload_n hx hb d_T_riseAbove_362 rfl (lv_at hl 0 rfl) ?_
  refine lv_dup hx hb d_T_riseAbove_363 rfl ?_
  refine xr_get hx hb hts (xmu uws_T) hown hw h1 rfl (by decide) (hts _ (xm w_162)) (fun _ h9 => h9) d_T_riseAbove_364 ?_
  refine lv_iload hx hb d_T_riseAbove_367 (lv_at hl 2 rfl) ?_
  refine lv_isub hx hb d_T_riseAbove_369 ?_
  refine xr_put (ty := .int) hx hb hts (xmu uws_T) tyc_T tyc_T_ok nmc_T hown hw h2 rfl (by decide) (hts _ (xm w_162)) (fun _ h9 => h9) rfl (by decide +kernel) rfl rfl d_T_riseAbove_370 (fun H locs hw => ?_)
  refine lv_aload_n hx hb d_T_riseAbove_373 rfl (lv_at hl 0 rfl) ?_
  refine xr_get hx hb hts (xmu uws_T) hown hw h3 rfl (by decide) (hts _ (xm w_160)) (fun _ h9 => h9) d_T_riseAbove_374 ?_
  refine xr_get hx hb hts (xmu uws_N) hown hw h4 rfl (by decide) (hts _ (xm w_86)) (fun _ h9 => h9) d_T_riseAbove_377 ?_
  refine lv_iload hx hb d_T_riseAbove_380 (lv_at hl 1 rfl) ?_
  refine lv_isub hx hb d_T_riseAbove_382 ?_
  refine lv_iload hx hb d_T_riseAbove_383 (lv_at hl 2 rfl) ?_
  refine lv_isub hx hb d_T_riseAbove_385 ?_
  exact xr_iret F rfl hw d_T_riseAbove_386
set_option maxRecDepth 100000 in
set_option maxHeartbeats 4000000 in
theorem c_T_riseAbove (l : Launch) (Z : XZ) (x0 : Nat) (x1 : Int32) (u : PS) (K : Int32 → PS → Prop) (k : p_T_riseAbove x0 x1 u K) : ∃ (rv : Option Value) (u1 : PS), (kI K) rv u1 ∧ XMet l Z i_T_riseAbove [.ref x0, .int x1] u rv u1 := by
  refine x_met (by decide) rfl (Nat.le_of_ble_eq_true rfl) ?_
  show XN l Z i_T_riseAbove u (kI K) u 0 [(0, .ref x0), (1, .int x1)] []
  unfold p_T_riseAbove at k
  obtain ⟨z_63, h1, k⟩ := k
  obtain ⟨z_64, h2, k⟩ := k
  obtain ⟨z_65, h3, k⟩ := k
  obtain ⟨z_66, h4, k⟩ := k
  obtain ⟨z_67, h5, k⟩ := k
  obtain ⟨z_68, h6, k⟩ := k
  obtain ⟨h8, k⟩ := k
  obtain ⟨_, u_69, ⟨rfl, k⟩, hM7⟩ := c_N_makeRoomFor l Z z_63 (z_65 + ((2 : Int32) * z_68)) u _ k
  obtain ⟨h10, k⟩ := k
  obtain ⟨_, u_70, ⟨rfl, k⟩, hM9⟩ := c_T_fitNodes l Z x0 u_69 _ k
  obtain ⟨z_71, h11, k⟩ := k
  obtain ⟨z_72, h12, k⟩ := k
  obtain ⟨z_73, h13, k⟩ := k
  obtain ⟨z_74, h14, k⟩ := k
  obtain ⟨z_75, h15, k⟩ := k
  obtain ⟨z_76, h16, k⟩ := k
  obtain ⟨z_77, h17, k⟩ := k
  obtain ⟨z_78, h18, k⟩ := k
  obtain ⟨z_79, h19, k⟩ := k
  obtain ⟨z_80, h20, k⟩ := k
  obtain ⟨z_81, h21, k⟩ := k
  obtain ⟨z_82, h22, k⟩ := k
  obtain ⟨n23, k⟩ := k
  have hx26 : ∀ (y8_24 : Int32) (v25 : PS), (p_T_riseAbove_J362 K x0 z_82 y8_24 v25) → XN l Z i_T_riseAbove u (kI K) v25 362 [(0, .ref x0), (7, .int z_82), (8, .int y8_24)] [] := by
    intro y8_24 v25 k
    obtain ⟨rv, v9, hK, hle_v25, w9⟩ := t_T_riseAbove_J362 l Z u x0 z_82 y8_24 v25 k
    refine ⟨rv, v9, hK, hle_v25, ?_⟩
    intro p e s m args below meth c A H locs ls F hw hl
    obtain ⟨⟨hx, hb, hml, hown, hts⟩, hr, hlocks, hmn⟩ := id F
    exact w9 p e s m args below meth c A H locs ls F hw (lv_sub hl [0, 1, 2] rfl)
  obtain ⟨rv, v9, hK, hle_u_70, w9⟩ := t_T_riseAbove_L86 l Z u x0 x1 z_72 z_75 z_76 z_77 z_80 z_82 hx26 n23 (0 : Int32) (0 : Int32) u_70 k
  have hle_u_69 : x_le u_69 v9 := (hM9.1).tr hle_u_70
  have hle_u : x_le u v9 := (hM7.1).tr hle_u_69
  refine ⟨rv, v9, hK, hle_u, ?_⟩
  intro p e s m args below meth c A H locs ls F hw hl
  obtain ⟨⟨hx, hb, hml, hown, hts⟩, hr, hlocks, hmn⟩ := id F
  refine lv_aload_n hx hb d_T_riseAbove_0 rfl (lv_at hl 0 rfl) ?_
  refine xr_get hx hb hts (xmu uws_T) hown hw h1 rfl (by decide) (hts _ (xm w_160)) (fun _ h9 => h9) d_T_riseAbove_1 ?_
  refine lv_aload_n hx hb d_T_riseAbove_4 rfl (lv_at hl 0 rfl) ?_
  refine xr_get hx hb hts (xmu uws_T) hown hw h2 rfl (by decide) (hts _ (xm w_160)) (fun _ h9 => h9) d_T_riseAbove_5 ?_
  refine xr_get hx hb hts (xmu uws_N) hown hw h3 rfl (by decide) (hts _ (xm w_86)) (fun _ h9 => h9) d_T_riseAbove_8 ?_
  refine lv_iconst (v := 2) hx hb d_T_riseAbove_11 (by decide) ?_
  refine lv_aload_n hx hb d_T_riseAbove_12 rfl (lv_at hl 0 rfl) ?_
  refine xr_get hx hb hts (xmu uws_T) hown hw h4 rfl (by decide) (hts _ (xm w_160)) (fun _ h9 => h9) d_T_riseAbove_13 ?_
  refine xr_get hx hb hts (xmu uws_N) hown hw h5 rfl (by decide) (hts _ (xm w_79)) (fun _ h9 => h9) d_T_riseAbove_16 ?_
  refine lv_iload_n hx hb d_T_riseAbove_19 rfl (lv_at hl 1 rfl) ?_
  refine xr_iald hx hb hw h6 d_T_riseAbove_20 ?_
  refine lv_imul hx hb d_T_riseAbove_21 ?_
  refine lv_iadd hx hb d_T_riseAbove_22 ?_
  refine xr_cV (As := [.int (z_65 + ((2 : Int32) * z_68))]) (rest := []) ⟨hx, hb, hml, hown, hts⟩ hw hM7 hle_u_69 (fun _ _ => ⟨callB_of 1 hts (xgood w_301) rfl rfl rfl (hts _ (xm w_4)) (hts _ (xm w_444)) ⟨by decide, by decide, by decide +kernel⟩ ⟨Nat.le_of_ble_eq_true rfl, Nat.le_of_ble_eq_true rfl⟩, (hts _ (xm w_299)), (hts _ (xm w_300))⟩) (qc := (R_N, F_N, 13)) rfl rfl h8 rfl hl.1 rfl (Nat.le_of_ble_eq_true rfl) d_T_riseAbove_23 (fun H locs hw => ?_)
  refine W.eq (g2 := F0 m 26 ls []) rfl ?_
  refine lv_aload_n hx hb d_T_riseAbove_26 rfl (lv_at hl 0 rfl) ?_
  refine xr_cV (As := []) (rest := []) ⟨hx, hb, hml, hown, hts⟩ hw hM9 hle_u_70 (fun _ _ => ⟨callB_of 0 hts (xgood w_429) rfl rfl rfl (hts _ (xm w_7)) (hts _ (xm w_426)) ⟨by decide, by decide, by decide +kernel⟩ ⟨Nat.le_of_ble_eq_true rfl, Nat.le_of_ble_eq_true rfl⟩, (hts _ (xm w_428)), (hts _ (xm wp_21))⟩) (qc := (R_T, F_T, 10)) rfl rfl h10 rfl hl.1 rfl (Nat.le_of_ble_eq_true rfl) d_T_riseAbove_27 (fun H locs hw => ?_)
  refine W.eq (g2 := F0 m 30 ls []) rfl ?_
  refine lv_aload_n hx hb d_T_riseAbove_30 rfl (lv_at hl 0 rfl) ?_
  refine xr_get hx hb hts (xmu uws_T) hown hw h11 rfl (by decide) (hts _ (xm w_160)) (fun _ h9 => h9) d_T_riseAbove_31 ?_
  refine xr_get hx hb hts (xmu uws_N) hown hw h12 rfl (by decide) (hts _ (xm w_73)) (fun _ h9 => h9) d_T_riseAbove_34 ?_
  refine lv_astore_n (lv' := [(2, .ref z_72), (0, .ref x0), (1, .int x1)]) hx hb d_T_riseAbove_37 rfl hl (by decide) rfl (fun ls hl => ?_)
  refine lv_aload_n hx hb d_T_riseAbove_38 rfl (lv_at hl 1 rfl) ?_
  refine xr_get hx hb hts (xmu uws_T) hown hw h13 rfl (by decide) (hts _ (xm w_160)) (fun _ h9 => h9) d_T_riseAbove_39 ?_
  refine xr_get hx hb hts (xmu uws_N) hown hw h14 rfl (by decide) (hts _ (xm w_77)) (fun _ h9 => h9) d_T_riseAbove_42 ?_
  refine lv_iload_n hx hb d_T_riseAbove_45 rfl (lv_at hl 2 rfl) ?_
  refine xr_aald hx hb hw rfl h15 d_T_riseAbove_46 ?_
  refine lv_astore_n (lv' := [(3, .ref z_75), (2, .ref z_72), (0, .ref x0), (1, .int x1)]) hx hb d_T_riseAbove_47 rfl hl (by decide) rfl (fun ls hl => ?_)
  refine lv_aload_n hx hb d_T_riseAbove_48 rfl (lv_at hl 2 rfl) ?_
  refine xr_get hx hb hts (xmu uws_T) hown hw h16 rfl (by decide) (hts _ (xm w_164)) (fun _ h9 => h9) d_T_riseAbove_49 ?_
  refine lv_astore (lv' := [(4, .ref z_76), (3, .ref z_75), (2, .ref z_72), (0, .ref x0), (1, .int x1)]) hx hb d_T_riseAbove_52 hl (by decide) rfl (fun ls hl => ?_)
  refine lv_aload_n hx hb d_T_riseAbove_54 rfl (lv_at hl 3 rfl) ?_
  refine xr_get hx hb hts (xmu uws_T) hown hw h17 rfl (by decide) (hts _ (xm w_165)) (fun _ h9 => h9) d_T_riseAbove_55 ?_
  refine lv_istore (lv' := [(5, .int z_77), (4, .ref z_76), (3, .ref z_75), (2, .ref z_72), (0, .ref x0), (1, .int x1)]) hx hb d_T_riseAbove_58 hl (by decide) rfl (fun ls hl => ?_)
  refine lv_aload_n hx hb d_T_riseAbove_60 rfl (lv_at hl 4 rfl) ?_
  refine xr_get hx hb hts (xmu uws_T) hown hw h18 rfl (by decide) (hts _ (xm w_160)) (fun _ h9 => h9) d_T_riseAbove_61 ?_
  refine xr_get hx hb hts (xmu uws_N) hown hw h19 rfl (by decide) (hts _ (xm w_79)) (fun _ h9 => h9) d_T_riseAbove_64 ?_
  refine lv_iload_n hx hb d_T_riseAbove_67 rfl (lv_at hl 5 rfl) ?_
  refine xr_iald hx hb hw h20 d_T_riseAbove_68 ?_
  refine lv_istore (lv' := [(6, .int z_80), (5, .int z_77), (4, .ref z_76), (3, .ref z_75), (2, .ref z_72), (0, .ref x0), (1, .int x1)]) hx hb d_T_riseAbove_69 hl (by decide) rfl (fun ls hl => ?_)
  refine lv_aload_n hx hb d_T_riseAbove_71 rfl (lv_at hl 5 rfl) ?_
  refine xr_get hx hb hts (xmu uws_T) hown hw h21 rfl (by decide) (hts _ (xm w_160)) (fun _ h9 => h9) d_T_riseAbove_72 ?_
  refine xr_get hx hb hts (xmu uws_N) hown hw h22 rfl (by decide) (hts _ (xm w_86)) (fun _ h9 => h9) d_T_riseAbove_75 ?_
  refine lv_istore (lv' := [(7, .int z_82), (6, .int z_80), (5, .int z_77), (4, .ref z_76), (3, .ref z_75), (2, .ref z_72), (0, .ref x0), (1, .int x1)]) hx hb d_T_riseAbove_78 hl (by decide) rfl (fun ls hl => ?_)
  refine lv_iconst (v := 0) hx hb d_T_riseAbove_80 (by decide) ?_
  refine lv_istore (lv' := [(8, .int 0), (7, .int z_82), (6, .int z_80), (5, .int z_77), (4, .ref z_76), (3, .ref z_75), (2, .ref z_72), (0, .ref x0), (1, .int x1)]) hx hb d_T_riseAbove_81 hl (by decide) rfl (fun ls hl => ?_)
  refine lv_iconst (v := 0) hx hb d_T_riseAbove_83 (by decide) ?_
  refine lv_istore (lv' := [(9, .int 0), (8, .int 0), (7, .int z_82), (6, .int z_80), (5, .int z_77), (4, .ref z_76), (3, .ref z_75), (2, .ref z_72), (0, .ref x0), (1, .int x1)]) hx hb d_T_riseAbove_84 hl (by decide) rfl (fun ls hl => ?_)
  exact w9 p e s m args below meth c A H locs ls F hw (lv_sub hl [8, 9, 7, 6, 5, 4, 3, 2, 1, 0] rfl)
set_option maxRecDepth 100000 in
set_option maxHeartbeats 4000000 in
theorem t_T_link_J52 (l : Launch) (Z : XZ) (u0 : PS) {K : PS → Prop} (x0 : Nat) (x1 : Int32) (s0 : Int32) (u : PS) (k : (p_T_link_J52 K x0 x1 s0 u)) : XN l Z i_T_link u0 (kV K) u 52 [(0, .ref x0), (1, .int x1)] [.int s0] := by
  unfold p_T_link_J52 at k
  obtain ⟨z_27, h1, k⟩ := k
  obtain ⟨z_28, h2, k⟩ := k
  obtain ⟨z_29, h3, k⟩ := k
  obtain ⟨u_30, h4, k⟩ := k
  obtain ⟨z_31, h5, k⟩ := k
  obtain ⟨u_32, h6, k⟩ := k
  have hle_u_32 : x_le u_32 u_32 := x_le.rf u_32
  have hle_u_30 : x_le u_30 u_32 := (h6.le).tr hle_u_32
  have hle_u : x_le u u_32 := (h4.le).tr hle_u_30
  refine ⟨none, u_32, ⟨rfl, k⟩, hle_u, ?_⟩
  intro p e s m args below meth c A H locs ls F hw hl
  obtain ⟨⟨hx, hb, hml, hown, hts⟩, hr, hlocks, hmn⟩ := id F
  refine lv_istore (lv' := [(6, .int s0), (0, .ref x0), (1, .int x1)]) hx hb d_T_link_52 hl (by decide) rfl (fun ls hl => ?_)
  refine lv_aload_n hx hb d_T_link_54 rfl (lv_at hl 1 rfl) ?_
  refine xr_get hx hb hts (xmu uws_T) hown hw h1 rfl (by decide) (hts _ (xm w_167)) (fun _ h9 => h9) d_T_link_55 ?_
  refine lv_iload_n hx hb d_T_link_58 rfl (lv_at hl 2 rfl) ?_
  refine lv_aload_n hx hb d_T_link_59 rfl (lv_at hl 1 rfl) ?_
  refine xr_get hx hb hts (xmu uws_T) hown hw h2 rfl (by decide) (hts _ (xm w_168)) (fun _ h9 => h9) d_T_link_60 ?_
  refine lv_iload hx hb d_T_link_63 (lv_at hl 0 rfl) ?_
  refine xr_iald hx hb hw h3 d_T_link_65 ?_
  refine xr_iast hx hb hw h4 d_T_link_66 (fun H locs hw => ?_)
  refine lv_aload_n hx hb d_T_link_67 rfl (lv_at hl 1 rfl) ?_
  refine xr_get hx hb hts (xmu uws_T) hown hw h5 rfl (by decide) (hts _ (xm w_168)) (fun _ h9 => h9) d_T_link_68 ?_
  refine lv_iload hx hb d_T_link_71 (lv_at hl 0 rfl) ?_
  refine lv_iload_n hx hb d_T_link_73 rfl (lv_at hl 2 rfl) ?_
  refine xr_iast hx hb hw h6 d_T_link_74 (fun H locs hw => ?_)
  exact xr_vret F rfl hw d_T_link_75
set_option maxRecDepth 100000 in
set_option maxHeartbeats 4000000 in
theorem c_T_link (l : Launch) (Z : XZ) (x0 : Nat) (x1 : Int32) (x2 : Int32) (x3 : Int32) (u : PS) (K : PS → Prop) (k : p_T_link x0 x1 x2 x3 u K) : ∃ (rv : Option Value) (u1 : PS), (kV K) rv u1 ∧ XMet l Z i_T_link [.ref x0, .int x1, .int x2, .int x3] u rv u1 := by
  refine x_met (by decide) rfl (Nat.le_of_ble_eq_true rfl) ?_
  show XN l Z i_T_link u (kV K) u 0 [(0, .ref x0), (1, .int x1), (2, .int x2), (3, .int x3)] []
  unfold p_T_link at k
  obtain ⟨z_17, h1, k⟩ := k
  obtain ⟨z_18, h2, k⟩ := k
  obtain ⟨z_19, h3, k⟩ := k
  obtain ⟨z_20, h4, k⟩ := k
  obtain ⟨z_21, h5, k⟩ := k
  obtain ⟨z_22, h6, k⟩ := k
  obtain ⟨z_23, h7, k⟩ := k
  obtain ⟨z_24, h8, k⟩ := k
  obtain ⟨z_25, h9, k⟩ := k
  obtain ⟨z_26, h10, k⟩ := k
  by_cases hc11 : z_26 ≤ z_21
  · have k := k.1 hc11
    obtain ⟨rv, v9, hK, hle_u, w9⟩ := t_T_link_J52 l Z u x0 x1 z_26 u k
    refine ⟨rv, v9, hK, hle_u, ?_⟩
    intro p e s m args below meth c A H locs ls F hw hl
    obtain ⟨⟨hx, hb, hml, hown, hts⟩, hr, hlocks, hmn⟩ := id F
    refine lv_aload_n hx hb d_T_link_0 rfl (lv_at hl 0 rfl) ?_
    refine xr_get hx hb hts (xmu uws_T) hown hw h1 rfl (by decide) (hts _ (xm w_169)) (fun _ h9 => h9) d_T_link_1 ?_
    refine lv_aload_n hx hb d_T_link_4 rfl (lv_at hl 0 rfl) ?_
    refine xr_get hx hb hts (xmu uws_T) hown hw h2 rfl (by decide) (hts _ (xm w_160)) (fun _ h9 => h9) d_T_link_5 ?_
    refine xr_get hx hb hts (xmu uws_N) hown hw h3 rfl (by decide) (hts _ (xm w_73)) (fun _ h9 => h9) d_T_link_8 ?_
    refine lv_iload_n hx hb d_T_link_11 rfl (lv_at hl 2 rfl) ?_
    refine xr_iald hx hb hw h4 d_T_link_12 ?_
    refine lv_bipush (v := 28) hx hb d_T_link_13 (by decide) ?_
    refine lv_iushr hx hb d_T_link_15 rfl ?_
    refine xr_iald hx hb hw h5 d_T_link_16 ?_
    refine lv_istore (lv' := [(4, .int z_21), (0, .ref x0), (1, .int x1), (2, .int x2), (3, .int x3)]) hx hb d_T_link_17 hl (by decide) rfl (fun ls hl => ?_)
    refine lv_aload_n hx hb d_T_link_19 rfl (lv_at hl 1 rfl) ?_
    refine xr_get hx hb hts (xmu uws_T) hown hw h6 rfl (by decide) (hts _ (xm w_169)) (fun _ h9 => h9) d_T_link_20 ?_
    refine lv_aload_n hx hb d_T_link_23 rfl (lv_at hl 1 rfl) ?_
    refine xr_get hx hb hts (xmu uws_T) hown hw h7 rfl (by decide) (hts _ (xm w_160)) (fun _ h9 => h9) d_T_link_24 ?_
    refine xr_get hx hb hts (xmu uws_N) hown hw h8 rfl (by decide) (hts _ (xm w_73)) (fun _ h9 => h9) d_T_link_27 ?_
    refine lv_iload_n hx hb d_T_link_30 rfl (lv_at hl 4 rfl) ?_
    refine xr_iald hx hb hw h9 d_T_link_31 ?_
    refine lv_bipush (v := 28) hx hb d_T_link_32 (by decide) ?_
    refine lv_iushr hx hb d_T_link_34 rfl ?_
    refine xr_iald hx hb hw h10 d_T_link_35 ?_
    refine lv_istore (lv' := [(5, .int z_26), (4, .int z_21), (0, .ref x0), (1, .int x1), (2, .int x2), (3, .int x3)]) hx hb d_T_link_36 hl (by decide) rfl (fun ls hl => ?_)
    refine lv_iload hx hb d_T_link_38 (lv_at hl 1 rfl) ?_
    refine lv_iload hx hb d_T_link_40 (lv_at hl 0 rfl) ?_
    refine lv_icmp_ge (tgt := 50) hx hb d_T_link_42 (by decide) (fun _ => ?_) (fun c9 => absurd hc11 c9)
    refine lv_iload hx hb d_T_link_50 (lv_at hl 0 rfl) ?_
    exact w9 p e s m args below meth c A H locs ls F hw (lv_sub hl [2, 3] rfl)
  · have k := k.2 hc11
    obtain ⟨rv, v9, hK, hle_u, w9⟩ := t_T_link_J52 l Z u x0 x1 z_21 u k
    refine ⟨rv, v9, hK, hle_u, ?_⟩
    intro p e s m args below meth c A H locs ls F hw hl
    obtain ⟨⟨hx, hb, hml, hown, hts⟩, hr, hlocks, hmn⟩ := id F
    refine lv_aload_n hx hb d_T_link_0 rfl (lv_at hl 0 rfl) ?_
    refine xr_get hx hb hts (xmu uws_T) hown hw h1 rfl (by decide) (hts _ (xm w_169)) (fun _ h9 => h9) d_T_link_1 ?_
    refine lv_aload_n hx hb d_T_link_4 rfl (lv_at hl 0 rfl) ?_
    refine xr_get hx hb hts (xmu uws_T) hown hw h2 rfl (by decide) (hts _ (xm w_160)) (fun _ h9 => h9) d_T_link_5 ?_
    refine xr_get hx hb hts (xmu uws_N) hown hw h3 rfl (by decide) (hts _ (xm w_73)) (fun _ h9 => h9) d_T_link_8 ?_
    refine lv_iload_n hx hb d_T_link_11 rfl (lv_at hl 2 rfl) ?_
    refine xr_iald hx hb hw h4 d_T_link_12 ?_
    refine lv_bipush (v := 28) hx hb d_T_link_13 (by decide) ?_
    refine lv_iushr hx hb d_T_link_15 rfl ?_
    refine xr_iald hx hb hw h5 d_T_link_16 ?_
    refine lv_istore (lv' := [(4, .int z_21), (0, .ref x0), (1, .int x1), (2, .int x2), (3, .int x3)]) hx hb d_T_link_17 hl (by decide) rfl (fun ls hl => ?_)
    refine lv_aload_n hx hb d_T_link_19 rfl (lv_at hl 1 rfl) ?_
    refine xr_get hx hb hts (xmu uws_T) hown hw h6 rfl (by decide) (hts _ (xm w_169)) (fun _ h9 => h9) d_T_link_20 ?_
    refine lv_aload_n hx hb d_T_link_23 rfl (lv_at hl 1 rfl) ?_
    refine xr_get hx hb hts (xmu uws_T) hown hw h7 rfl (by decide) (hts _ (xm w_160)) (fun _ h9 => h9) d_T_link_24 ?_
    refine xr_get hx hb hts (xmu uws_N) hown hw h8 rfl (by decide) (hts _ (xm w_73)) (fun _ h9 => h9) d_T_link_27 ?_
    refine lv_iload_n hx hb d_T_link_30 rfl (lv_at hl 4 rfl) ?_
    refine xr_iald hx hb hw h9 d_T_link_31 ?_
    refine lv_bipush (v := 28) hx hb d_T_link_32 (by decide) ?_
    refine lv_iushr hx hb d_T_link_34 rfl ?_
    refine xr_iald hx hb hw h10 d_T_link_35 ?_
    refine lv_istore (lv' := [(5, .int z_26), (4, .int z_21), (0, .ref x0), (1, .int x1), (2, .int x2), (3, .int x3)]) hx hb d_T_link_36 hl (by decide) rfl (fun ls hl => ?_)
    refine lv_iload hx hb d_T_link_38 (lv_at hl 1 rfl) ?_
    refine lv_iload hx hb d_T_link_40 (lv_at hl 0 rfl) ?_
    refine lv_icmp_ge (tgt := 50) hx hb d_T_link_42 (by decide) (fun c9 => absurd c9 hc11) (fun _ => ?_)
    refine lv_iload hx hb d_T_link_45 (lv_at hl 1 rfl) ?_
    refine lv_goto (tgt := 52) hx hb d_T_link_47 (by decide) ?_
    exact w9 p e s m args below meth c A H locs ls F hw (lv_sub hl [2, 3] rfl)
set_option maxRecDepth 100000 in
set_option maxHeartbeats 4000000 in
theorem t_T_startSinking_L12 (l : Launch) (Z : XZ) (u0 : PS) {Kv : Option Value → PS → Prop} {E44 : PS → Prop} (x0 : Nat) (x1 : Int32) (x2 : Nat) (hE44 : ∀ (v : PS), E44 v → XN l Z i_T_startSinking u0 Kv v 44 [(0, .ref x0), (1, .int x1)] []) : ∀ (n : Nat) (x4 : Int32) (u : PS), p_T_startSinking_L12 x0 x1 x2 E44 n x4 u → XN l Z i_T_startSinking u0 Kv u 12 [(0, .ref x0), (1, .int x1), (2, .ref x2), (4, .int x4)] [] := by
  intro n
  induction n with
  | zero => intro x4 u k; exact False.elim k
  | succ n ih =>
    intro x4 u k
    rw [p_T_startSinking_L12] at k
    by_cases hc1 : 9 ≤ x4
    · have k := k.1 hc1
      obtain ⟨rv, v9, hK, hle_u, w9⟩ := hE44 u k
      refine ⟨rv, v9, hK, hle_u, ?_⟩
      intro p e s m args below meth c A H locs ls F hw hl
      obtain ⟨⟨hx, hb, hml, hown, hts⟩, hr, hlocks, hmn⟩ := id F
      refine lv_iload hx hb d_T_startSinking_12 (lv_at hl 3 rfl) ?_
      refine lv_bipush (v := 9) hx hb d_T_startSinking_14 (by decide) ?_
      refine lv_icmp_ge (tgt := 44) hx hb d_T_startSinking_16 (by decide) (fun _ => ?_) (fun c9 => absurd hc1 c9)
      exact w9 p e s m args below meth c A H locs ls F hw (lv_sub hl [0, 1] rfl)
    · have k := k.2 hc1
      obtain ⟨z_28, h2, k⟩ := k
      obtain ⟨z_29, h3, k⟩ := k
      obtain ⟨u_30, h4, k⟩ := k
      obtain ⟨z_31, h5, k⟩ := k
      obtain ⟨u_32, h6, k⟩ := k
      obtain ⟨y7, ey7⟩ : ∃ y9 : Int32, y9 = x4 + 1 := ⟨_, rfl⟩
      have k := k y7 ey7
      obtain ⟨rv, v9, hK, hle_u_32, w9⟩ := ih y7 u_32 k
      have hle_u_30 : x_le u_30 v9 := (h6.le).tr hle_u_32
      have hle_u : x_le u v9 := (h4.le).tr hle_u_30
      refine ⟨rv, v9, hK, hle_u, ?_⟩
      intro p e s m args below meth c A H locs ls F hw hl
      obtain ⟨⟨hx, hb, hml, hown, hts⟩, hr, hlocks, hmn⟩ := id F
      refine lv_iload hx hb d_T_startSinking_12 (lv_at hl 3 rfl) ?_
      refine lv_bipush (v := 9) hx hb d_T_startSinking_14 (by decide) ?_
      refine lv_icmp_ge (tgt := 44) hx hb d_T_startSinking_16 (by decide) (fun c9 => absurd c9 hc1) (fun _ => ?_)
      refine lv_aload_n hx hb d_T_startSinking_19 rfl (lv_at hl 0 rfl) ?_
      refine xr_get hx hb hts (xmu uws_T) hown hw h2 rfl (by decide) (hts _ (xm w_169)) (fun _ h9 => h9) d_T_startSinking_20 ?_
      refine lv_aload_n hx hb d_T_startSinking_23 rfl (lv_at hl 2 rfl) ?_
      refine lv_iload hx hb d_T_startSinking_24 (lv_at hl 3 rfl) ?_
      refine xr_iald hx hb hw h3 d_T_startSinking_26 ?_
      refine lv_iload hx hb d_T_startSinking_27 (lv_at hl 3 rfl) ?_
      refine xr_iast hx hb hw h4 d_T_startSinking_29 (fun H locs hw => ?_)
      refine lv_aload_n hx hb d_T_startSinking_30 rfl (lv_at hl 0 rfl) ?_
      refine xr_get hx hb hts (xmu uws_T) hown hw h5 rfl (by decide) (hts _ (xm w_168)) (fun _ h9 => h9) d_T_startSinking_31 ?_
      refine lv_iload hx hb d_T_startSinking_34 (lv_at hl 3 rfl) ?_
      refine lv_iconst (v := 0) hx hb d_T_startSinking_36 (by decide) ?_
      refine xr_iast hx hb hw h6 d_T_startSinking_37 (fun H locs hw => ?_)
      refine lv_iinc (v := y7) (lv' := [(4, .int y7), (0, .ref x0), (1, .int x1), (2, .ref x2)]) hx hb d_T_startSinking_38 hl (k := 3) rfl (by subst ey7; rfl) (by decide) rfl (fun ls hl => ?_)
      refine lv_goto (tgt := 12) hx hb d_T_startSinking_41 (by decide) ?_
      exact w9 p e s m args below meth c A H locs ls F hw (lv_sub hl [1, 2, 3, 0] rfl)
set_option maxRecDepth 100000 in
set_option maxHeartbeats 4000000 in
theorem t_T_startSinking_L67 (l : Launch) (Z : XZ) (u0 : PS) {Kv : Option Value → PS → Prop} {E121 : PS → Prop} (x0 : Nat) (x4 : Nat) (hE121 : ∀ (v : PS), E121 v → XN l Z i_T_startSinking u0 Kv v 121 [] []) : ∀ (n : Nat) (x5 : Int32) (u : PS), p_T_startSinking_L67 x0 x4 E121 n x5 u → XN l Z i_T_startSinking u0 Kv u 67 [(0, .ref x0), (4, .ref x4), (5, .int x5)] [] := by
  intro n
  induction n with
  | zero => intro x5 u k; exact False.elim k
  | succ n ih =>
    intro x5 u k
    rw [p_T_startSinking_L67] at k
    obtain ⟨z_38, h1, k⟩ := k
    by_cases hc2 : z_38 ≤ x5
    · have k := k.1 hc2
      obtain ⟨rv, v9, hK, hle_u, w9⟩ := hE121 u k
      refine ⟨rv, v9, hK, hle_u, ?_⟩
      intro p e s m args below meth c A H locs ls F hw hl
      obtain ⟨⟨hx, hb, hml, hown, hts⟩, hr, hlocks, hmn⟩ := id F
      refine lv_iload hx hb d_T_startSinking_67 (lv_at hl 2 rfl) ?_
      refine lv_aload_n hx hb d_T_startSinking_69 rfl (lv_at hl 0 rfl) ?_
      refine xr_get hx hb hts (xmu uws_T) hown hw h1 rfl (by decide) (hts _ (xm w_162)) (fun _ h9 => h9) d_T_startSinking_70 ?_
      refine lv_icmp_ge (tgt := 121) hx hb d_T_startSinking_73 (by decide) (fun _ => ?_) (fun c9 => absurd hc2 c9)
      exact w9 p e s m args below meth c A H locs ls F hw (lv_sub hl [] rfl)
    · have k := k.2 hc2
      obtain ⟨z_39, h3, k⟩ := k
      obtain ⟨z_40, h4, k⟩ := k
      obtain ⟨z_41, h5, k⟩ := k
      obtain ⟨z_42, h6, k⟩ := k
      obtain ⟨z_43, h7, k⟩ := k
      obtain ⟨h9, k⟩ := k
      obtain ⟨_, u_44, ⟨rfl, k⟩, hM8⟩ := c_T_link l Z x0 z_43 (((z_42.toUInt32 >>> ((14 : Int32).toUInt32 &&& Int32.toUInt32 31)).toInt32) &&& (16383 : Int32)) (z_42 &&& (16383 : Int32)) u _ k
      obtain ⟨y10, ey10⟩ : ∃ y9 : Int32, y9 = x5 + 1 := ⟨_, rfl⟩
      have k := k y10 ey10
      obtain ⟨rv, v9, hK, hle_u_44, w9⟩ := ih y10 u_44 k
      have hle_u : x_le u v9 := (hM8.1).tr hle_u_44
      refine ⟨rv, v9, hK, hle_u, ?_⟩
      intro p e s m args below meth c A H locs ls F hw hl
      obtain ⟨⟨hx, hb, hml, hown, hts⟩, hr, hlocks, hmn⟩ := id F
      refine lv_iload hx hb d_T_startSinking_67 (lv_at hl 2 rfl) ?_
      refine lv_aload_n hx hb d_T_startSinking_69 rfl (lv_at hl 0 rfl) ?_
      refine xr_get hx hb hts (xmu uws_T) hown hw h1 rfl (by decide) (hts _ (xm w_162)) (fun _ h9 => h9) d_T_startSinking_70 ?_
      refine lv_icmp_ge (tgt := 121) hx hb d_T_startSinking_73 (by decide) (fun c9 => absurd c9 hc2) (fun _ => ?_)
      refine lv_aload_n hx hb d_T_startSinking_76 rfl (lv_at hl 0 rfl) ?_
      refine xr_get hx hb hts (xmu uws_T) hown hw h3 rfl (by decide) (hts _ (xm w_160)) (fun _ h9 => h9) d_T_startSinking_77 ?_
      refine xr_get hx hb hts (xmu uws_N) hown hw h4 rfl (by decide) (hts _ (xm w_73)) (fun _ h9 => h9) d_T_startSinking_80 ?_
      refine lv_aload hx hb d_T_startSinking_83 (lv_at hl 1 rfl) ?_
      refine lv_iload hx hb d_T_startSinking_85 (lv_at hl 2 rfl) ?_
      refine xr_iald hx hb hw h5 d_T_startSinking_87 ?_
      refine xr_iald hx hb hw h6 d_T_startSinking_88 ?_
      refine lv_istore (lv' := [(6, .int z_42), (0, .ref x0), (4, .ref x4), (5, .int x5)]) hx hb d_T_startSinking_89 hl (by decide) rfl (fun ls hl => ?_)
      refine lv_aload_n hx hb d_T_startSinking_91 rfl (lv_at hl 1 rfl) ?_
      refine lv_aload hx hb d_T_startSinking_92 (lv_at hl 2 rfl) ?_
      refine lv_iload hx hb d_T_startSinking_94 (lv_at hl 3 rfl) ?_
      refine xr_iald hx hb hw h7 d_T_startSinking_96 ?_
      refine lv_iload hx hb d_T_startSinking_97 (lv_at hl 0 rfl) ?_
      refine lv_bipush (v := 14) hx hb d_T_startSinking_99 (by decide) ?_
      refine lv_iushr hx hb d_T_startSinking_101 rfl ?_
      refine lv_sipush (v := 16383) hx hb d_T_startSinking_102 (by decide) ?_
      refine lv_iand hx hb d_T_startSinking_105 ?_
      refine lv_iload hx hb d_T_startSinking_106 (lv_at hl 0 rfl) ?_
      refine lv_sipush (v := 16383) hx hb d_T_startSinking_108 (by decide) ?_
      refine lv_iand hx hb d_T_startSinking_111 ?_
      refine xr_cV (As := [.int z_43, .int (((z_42.toUInt32 >>> ((14 : Int32).toUInt32 &&& Int32.toUInt32 31)).toInt32) &&& (16383 : Int32)), .int (z_42 &&& (16383 : Int32))]) (rest := []) ⟨hx, hb, hml, hown, hts⟩ hw hM8 hle_u_44 (fun _ _ => ⟨callB_of 3 hts (xgood w_468) rfl rfl rfl (hts _ (xm w_7)) (hts _ (xm w_465)) ⟨by decide, by decide, by decide +kernel⟩ ⟨Nat.le_of_ble_eq_true rfl, Nat.le_of_ble_eq_true rfl⟩, (hts _ (xm w_467)), (hts _ (xm wp_24))⟩) (qc := (R_T, F_T, 10)) rfl rfl h9 rfl hl.1 rfl (Nat.le_of_ble_eq_true rfl) d_T_startSinking_112 (fun H locs hw => ?_)
      refine W.eq (g2 := F0 m 115 ls []) rfl ?_
      refine lv_iinc (v := y10) (lv' := [(5, .int y10), (6, .int z_42), (0, .ref x0), (4, .ref x4)]) hx hb d_T_startSinking_115 hl (k := 3) rfl (by subst ey10; rfl) (by decide) rfl (fun ls hl => ?_)
      refine lv_goto (tgt := 67) hx hb d_T_startSinking_118 (by decide) ?_
      exact w9 p e s m args below meth c A H locs ls F hw (lv_sub hl [2, 3, 0] rfl)
set_option maxRecDepth 100000 in
set_option maxHeartbeats 4000000 in
theorem t_T_startSinking_J44 (l : Launch) (Z : XZ) (u0 : PS) {K : PS → Prop} (x0 : Nat) (x1 : Int32) (u : PS) (k : (p_T_startSinking_J44 K x0 x1 u)) : XN l Z i_T_startSinking u0 (kV K) u 44 [(0, .ref x0), (1, .int x1)] [] := by
  unfold p_T_startSinking_J44 at k
  obtain ⟨z_33, h1, k⟩ := k
  obtain ⟨u_34, h2, k⟩ := k
  obtain ⟨z_35, h3, k⟩ := k
  obtain ⟨z_36, h4, k⟩ := k
  obtain ⟨z_37, h5, k⟩ := k
  obtain ⟨n6, k⟩ := k
  have hx8 : ∀ (v7 : PS), (K v7) → XN l Z i_T_startSinking u0 (kV K) v7 121 [] [] := by
    intro v7 k
    have hle_v7 : x_le v7 v7 := x_le.rf v7
    refine ⟨none, v7, ⟨rfl, k⟩, hle_v7, ?_⟩
    intro p e s m args below meth c A H locs ls F hw hl
    obtain ⟨⟨hx, hb, hml, hown, hts⟩, hr, hlocks, hmn⟩ := id F
    exact xr_vret F rfl hw d_T_startSinking_121
  obtain ⟨rv, v9, hK, hle_u_34, w9⟩ := t_T_startSinking_L67 l Z u0 x0 z_37 hx8 n6 (0 : Int32) u_34 k
  have hle_u : x_le u v9 := (h2.le).tr hle_u_34
  refine ⟨rv, v9, hK, hle_u, ?_⟩
  intro p e s m args below meth c A H locs ls F hw hl
  obtain ⟨⟨hx, hb, hml, hown, hts⟩, hr, hlocks, hmn⟩ := id F
  refine lv_aload_n hx hb d_T_startSinking_44 rfl (lv_at hl 0 rfl) ?_
  refine xr_get hx hb hts (xmu uws_T) hown hw h1 rfl (by decide) (hts _ (xm w_169)) (fun _ h9 => h9) d_T_startSinking_45 ?_
  refine lv_bipush (v := 10) hx hb d_T_startSinking_48 (by decide) ?_
  refine lv_bipush (v := 10) hx hb d_T_startSinking_50 (by decide) ?_
  refine xr_iast hx hb hw h2 d_T_startSinking_52 (fun H locs hw => ?_)
  refine lv_aload_n hx hb d_T_startSinking_53 rfl (lv_at hl 0 rfl) ?_
  refine xr_get hx hb hts (xmu uws_T) hown hw h3 rfl (by decide) (hts _ (xm w_160)) (fun _ h9 => h9) d_T_startSinking_54 ?_
  refine xr_get hx hb hts (xmu uws_N) hown hw h4 rfl (by decide) (hts _ (xm w_77)) (fun _ h9 => h9) d_T_startSinking_57 ?_
  refine lv_iload_n hx hb d_T_startSinking_60 rfl (lv_at hl 1 rfl) ?_
  refine xr_aald hx hb hw rfl h5 d_T_startSinking_61 ?_
  refine lv_astore (lv' := [(4, .ref z_37), (0, .ref x0), (1, .int x1)]) hx hb d_T_startSinking_62 hl (by decide) rfl (fun ls hl => ?_)
  refine lv_iconst (v := 0) hx hb d_T_startSinking_64 (by decide) ?_
  refine lv_istore (lv' := [(5, .int 0), (4, .ref z_37), (0, .ref x0), (1, .int x1)]) hx hb d_T_startSinking_65 hl (by decide) rfl (fun ls hl => ?_)
  exact w9 p e s m args below meth c A H locs ls F hw (lv_sub hl [2, 1, 0] rfl)
set_option maxRecDepth 100000 in
set_option maxHeartbeats 4000000 in
theorem c_T_startSinking (l : Launch) (Z : XZ) (x0 : Nat) (x1 : Int32) (x2 : Nat) (x3 : Int32) (u : PS) (K : PS → Prop) (k : p_T_startSinking x0 x1 x2 x3 u K) : ∃ (rv : Option Value) (u1 : PS), (kV K) rv u1 ∧ XMet l Z i_T_startSinking [.ref x0, .int x1, .ref x2, .int x3] u rv u1 := by
  refine x_met (by decide) rfl (Nat.le_of_ble_eq_true rfl) ?_
  show XN l Z i_T_startSinking u (kV K) u 0 [(0, .ref x0), (1, .int x1), (2, .ref x2), (3, .int x3)] []
  unfold p_T_startSinking at k
  obtain ⟨h2, k⟩ := k
  obtain ⟨_, u_26, ⟨rfl, k⟩, hM1⟩ := c_T_fitNodes l Z x0 u _ k
  obtain ⟨h4, k⟩ := k
  obtain ⟨_, u_27, ⟨rfl, k⟩, hM3⟩ := c_T_start l Z x0 x1 u_26 _ k
  obtain ⟨n5, k⟩ := k
  have hx7 : ∀ (v6 : PS), (p_T_startSinking_J44 K x0 x1 v6) → XN l Z i_T_startSinking u (kV K) v6 44 [(0, .ref x0), (1, .int x1)] [] := by
    intro v6 k
    obtain ⟨rv, v9, hK, hle_v6, w9⟩ := t_T_startSinking_J44 l Z u x0 x1 v6 k
    refine ⟨rv, v9, hK, hle_v6, ?_⟩
    intro p e s m args below meth c A H locs ls F hw hl
    obtain ⟨⟨hx, hb, hml, hown, hts⟩, hr, hlocks, hmn⟩ := id F
    exact w9 p e s m args below meth c A H locs ls F hw (lv_sub hl [0, 1] rfl)
  obtain ⟨rv, v9, hK, hle_u_27, w9⟩ := t_T_startSinking_L12 l Z u x0 x1 x2 hx7 n5 x3 u_27 k
  have hle_u_26 : x_le u_26 v9 := (hM3.1).tr hle_u_27
  have hle_u : x_le u v9 := (hM1.1).tr hle_u_26
  refine ⟨rv, v9, hK, hle_u, ?_⟩
  intro p e s m args below meth c A H locs ls F hw hl
  obtain ⟨⟨hx, hb, hml, hown, hts⟩, hr, hlocks, hmn⟩ := id F
  refine lv_aload_n hx hb d_T_startSinking_0 rfl (lv_at hl 0 rfl) ?_
  refine xr_cV (As := []) (rest := []) ⟨hx, hb, hml, hown, hts⟩ hw hM1 hle_u_26 (fun _ _ => ⟨callB_of 0 hts (xgood w_429) rfl rfl rfl (hts _ (xm w_7)) (hts _ (xm w_426)) ⟨by decide, by decide, by decide +kernel⟩ ⟨Nat.le_of_ble_eq_true rfl, Nat.le_of_ble_eq_true rfl⟩, (hts _ (xm w_428)), (hts _ (xm wp_21))⟩) (qc := (R_T, F_T, 10)) rfl rfl h2 rfl hl.1 rfl (Nat.le_of_ble_eq_true rfl) d_T_startSinking_1 (fun H locs hw => ?_)
  refine W.eq (g2 := F0 m 4 ls []) rfl ?_
  refine lv_aload_n hx hb d_T_startSinking_4 rfl (lv_at hl 0 rfl) ?_
  refine lv_iload_n hx hb d_T_startSinking_5 rfl (lv_at hl 1 rfl) ?_
  refine xr_cV (As := [.int x1]) (rest := []) ⟨hx, hb, hml, hown, hts⟩ hw hM3 hle_u_27 (fun _ _ => ⟨callB_of 1 hts (xgood w_434) rfl rfl rfl (hts _ (xm w_7)) (hts _ (xm w_431)) ⟨by decide, by decide, by decide +kernel⟩ ⟨Nat.le_of_ble_eq_true rfl, Nat.le_of_ble_eq_true rfl⟩, (hts _ (xm w_433)), (hts _ (xm wp_22))⟩) (qc := (R_T, F_T, 10)) rfl rfl h4 rfl hl.1 rfl (Nat.le_of_ble_eq_true rfl) d_T_startSinking_6 (fun H locs hw => ?_)
  refine W.eq (g2 := F0 m 9 ls []) rfl ?_
  refine lv_iload_n hx hb d_T_startSinking_9 rfl (lv_at hl 3 rfl) ?_
  refine lv_istore (lv' := [(4, .int x3), (0, .ref x0), (1, .int x1), (2, .ref x2), (3, .int x3)]) hx hb d_T_startSinking_10 hl (by decide) rfl (fun ls hl => ?_)
  exact w9 p e s m args below meth c A H locs ls F hw (lv_sub hl [1, 2, 3, 0] rfl)
set_option maxRecDepth 100000 in
set_option maxHeartbeats 4000000 in
theorem c_T_leadOn (l : Launch) (Z : XZ) (x0 : Nat) (x1 : Int32) (x2 : Int32) (x3 : Int32) (u : PS) (K : PS → Prop) (k : p_T_leadOn x0 x1 x2 x3 u K) : ∃ (rv : Option Value) (u1 : PS), (kV K) rv u1 ∧ XMet l Z i_T_leadOn [.ref x0, .int x1, .int x2, .int x3] u rv u1 := by
  refine x_met (by decide) rfl (Nat.le_of_ble_eq_true rfl) ?_
  show XN l Z i_T_leadOn u (kV K) u 0 [(0, .ref x0), (1, .int x1), (2, .int x2), (3, .int x3)] []
  unfold p_T_leadOn at k
  obtain ⟨z_16, h1, k⟩ := k
  obtain ⟨z_17, h2, k⟩ := k
  obtain ⟨z_18, h3, k⟩ := k
  obtain ⟨h5, k⟩ := k
  obtain ⟨_, u_19, ⟨r_20, rfl, k⟩, hM4⟩ := c_N_triedFor l Z z_18 x1 x2 x3 u _ k
  by_cases hc6 : r_20 = z_17
  · have k := k.2 hc6
    obtain ⟨z_21, h7, k⟩ := k
    obtain ⟨z_22, h8, k⟩ := k
    obtain ⟨u_23, h9, k⟩ := k
    obtain ⟨z_24, h10, k⟩ := k
    obtain ⟨z_25, h11, k⟩ := k
    obtain ⟨u_26, h12, k⟩ := k
    obtain ⟨h14, k⟩ := k
    obtain ⟨_, u_27, ⟨rfl, k⟩, hM13⟩ := c_T_link l Z x0 r_20 x2 x3 u_26 _ k
    have hle_u_27 : x_le u_27 u_27 := x_le.rf u_27
    have hle_u_26 : x_le u_26 u_27 := (hM13.1).tr hle_u_27
    have hle_u_23 : x_le u_23 u_27 := (h12.le).tr hle_u_26
    have hle_u_19 : x_le u_19 u_27 := (h9.le).tr hle_u_23
    have hle_u : x_le u u_27 := (hM4.1).tr hle_u_19
    refine ⟨none, u_27, ⟨rfl, k⟩, hle_u, ?_⟩
    intro p e s m args below meth c A H locs ls F hw hl
    obtain ⟨⟨hx, hb, hml, hown, hts⟩, hr, hlocks, hmn⟩ := id F
    refine lv_aload_n hx hb d_T_leadOn_0 rfl (lv_at hl 0 rfl) ?_
    refine xr_get hx hb hts (xmu uws_T) hown hw h1 rfl (by decide) (hts _ (xm w_160)) (fun _ h9 => h9) d_T_leadOn_1 ?_
    refine xr_get hx hb hts (xmu uws_N) hown hw h2 rfl (by decide) (hts _ (xm w_86)) (fun _ h9 => h9) d_T_leadOn_4 ?_
    refine lv_istore (lv' := [(4, .int z_17), (0, .ref x0), (1, .int x1), (2, .int x2), (3, .int x3)]) hx hb d_T_leadOn_7 hl (by decide) rfl (fun ls hl => ?_)
    refine lv_aload_n hx hb d_T_leadOn_9 rfl (lv_at hl 1 rfl) ?_
    refine xr_get hx hb hts (xmu uws_T) hown hw h3 rfl (by decide) (hts _ (xm w_160)) (fun _ h9 => h9) d_T_leadOn_10 ?_
    refine lv_iload_n hx hb d_T_leadOn_13 rfl (lv_at hl 2 rfl) ?_
    refine lv_iload_n hx hb d_T_leadOn_14 rfl (lv_at hl 3 rfl) ?_
    refine lv_iload_n hx hb d_T_leadOn_15 rfl (lv_at hl 4 rfl) ?_
    refine xr_cV (As := [.int x1, .int x2, .int x3]) (rest := []) ⟨hx, hb, hml, hown, hts⟩ hw hM4 hle_u_19 (fun _ _ => ⟨callB_of 3 hts (xgood w_448) rfl rfl rfl (hts _ (xm w_4)) (hts _ (xm w_445)) ⟨by decide, by decide, by decide +kernel⟩ ⟨Nat.le_of_ble_eq_true rfl, Nat.le_of_ble_eq_true rfl⟩, (hts _ (xm w_446)), (hts _ (xm w_447))⟩) (qc := (R_N, F_N, 13)) rfl rfl h5 rfl hl.1 rfl (Nat.le_of_ble_eq_true rfl) d_T_leadOn_16 (fun H locs hw => ?_)
    refine W.eq (g2 := F0 m 19 ls [.int r_20]) rfl ?_
    refine lv_istore (lv' := [(5, .int r_20), (4, .int z_17), (0, .ref x0), (1, .int x1), (2, .int x2), (3, .int x3)]) hx hb d_T_leadOn_19 hl (by decide) rfl (fun ls hl => ?_)
    refine lv_iload hx hb d_T_leadOn_21 (lv_at hl 0 rfl) ?_
    refine lv_iload hx hb d_T_leadOn_23 (lv_at hl 1 rfl) ?_
    refine lv_icmp_ne (tgt := 59) hx hb d_T_leadOn_25 (by decide) (fun c9 => absurd hc6 c9) (fun _ => ?_)
    refine lv_aload_n hx hb d_T_leadOn_28 rfl (lv_at hl 2 rfl) ?_
    refine xr_get hx hb hts (xmu uws_T) hown hw h7 rfl (by decide) (hts _ (xm w_163)) (fun _ h9 => h9) d_T_leadOn_29 ?_
    refine lv_iload_n hx hb d_T_leadOn_32 rfl (lv_at hl 4 rfl) ?_
    refine lv_dup2_11 hx hb d_T_leadOn_33 rfl rfl ?_
    refine xr_iald hx hb hw h8 d_T_leadOn_34 ?_
    refine lv_iconst (v := 1) hx hb d_T_leadOn_35 (by decide) ?_
    refine lv_iadd hx hb d_T_leadOn_36 ?_
    refine xr_iast hx hb hw h9 d_T_leadOn_37 (fun H locs hw => ?_)
    refine lv_aload_n hx hb d_T_leadOn_38 rfl (lv_at hl 2 rfl) ?_
    refine xr_get hx hb hts (xmu uws_T) hown hw h10 rfl (by decide) (hts _ (xm w_163)) (fun _ h9 => h9) d_T_leadOn_39 ?_
    refine lv_iload_n hx hb d_T_leadOn_42 rfl (lv_at hl 5 rfl) ?_
    refine lv_dup2_11 hx hb d_T_leadOn_43 rfl rfl ?_
    refine xr_iald hx hb hw h11 d_T_leadOn_44 ?_
    refine lv_iconst (v := 1) hx hb d_T_leadOn_45 (by decide) ?_
    refine lv_iadd hx hb d_T_leadOn_46 ?_
    refine xr_iast hx hb hw h12 d_T_leadOn_47 (fun H locs hw => ?_)
    refine lv_aload_n hx hb d_T_leadOn_48 rfl (lv_at hl 2 rfl) ?_
    refine lv_iload hx hb d_T_leadOn_49 (lv_at hl 0 rfl) ?_
    refine lv_iload_n hx hb d_T_leadOn_51 rfl (lv_at hl 4 rfl) ?_
    refine lv_iload_n hx hb d_T_leadOn_52 rfl (lv_at hl 5 rfl) ?_
    refine xr_cV (As := [.int r_20, .int x2, .int x3]) (rest := []) ⟨hx, hb, hml, hown, hts⟩ hw hM13 hle_u_27 (fun _ _ => ⟨callB_of 3 hts (xgood w_468) rfl rfl rfl (hts _ (xm w_7)) (hts _ (xm w_465)) ⟨by decide, by decide, by decide +kernel⟩ ⟨Nat.le_of_ble_eq_true rfl, Nat.le_of_ble_eq_true rfl⟩, (hts _ (xm w_467)), (hts _ (xm wp_24))⟩) (qc := (R_T, F_T, 10)) rfl rfl h14 rfl hl.1 rfl (Nat.le_of_ble_eq_true rfl) d_T_leadOn_53 (fun H locs hw => ?_)
    refine W.eq (g2 := F0 m 56 ls []) rfl ?_
    refine lv_goto (tgt := 74) hx hb d_T_leadOn_56 (by decide) ?_
    exact xr_vret F rfl hw d_T_leadOn_74
  · have k := k.1 hc6
    by_cases hc15 : x2 = x3
    · have k := k.2 hc15
      obtain ⟨z_28, h16, k⟩ := k
      obtain ⟨z_29, h17, k⟩ := k
      obtain ⟨u_30, h18, k⟩ := k
      have hle_u_30 : x_le u_30 u_30 := x_le.rf u_30
      have hle_u_19 : x_le u_19 u_30 := (h18.le).tr hle_u_30
      have hle_u : x_le u u_30 := (hM4.1).tr hle_u_19
      refine ⟨none, u_30, ⟨rfl, k⟩, hle_u, ?_⟩
      intro p e s m args below meth c A H locs ls F hw hl
      obtain ⟨⟨hx, hb, hml, hown, hts⟩, hr, hlocks, hmn⟩ := id F
      refine lv_aload_n hx hb d_T_leadOn_0 rfl (lv_at hl 0 rfl) ?_
      refine xr_get hx hb hts (xmu uws_T) hown hw h1 rfl (by decide) (hts _ (xm w_160)) (fun _ h9 => h9) d_T_leadOn_1 ?_
      refine xr_get hx hb hts (xmu uws_N) hown hw h2 rfl (by decide) (hts _ (xm w_86)) (fun _ h9 => h9) d_T_leadOn_4 ?_
      refine lv_istore (lv' := [(4, .int z_17), (0, .ref x0), (1, .int x1), (2, .int x2), (3, .int x3)]) hx hb d_T_leadOn_7 hl (by decide) rfl (fun ls hl => ?_)
      refine lv_aload_n hx hb d_T_leadOn_9 rfl (lv_at hl 1 rfl) ?_
      refine xr_get hx hb hts (xmu uws_T) hown hw h3 rfl (by decide) (hts _ (xm w_160)) (fun _ h9 => h9) d_T_leadOn_10 ?_
      refine lv_iload_n hx hb d_T_leadOn_13 rfl (lv_at hl 2 rfl) ?_
      refine lv_iload_n hx hb d_T_leadOn_14 rfl (lv_at hl 3 rfl) ?_
      refine lv_iload_n hx hb d_T_leadOn_15 rfl (lv_at hl 4 rfl) ?_
      refine xr_cV (As := [.int x1, .int x2, .int x3]) (rest := []) ⟨hx, hb, hml, hown, hts⟩ hw hM4 hle_u_19 (fun _ _ => ⟨callB_of 3 hts (xgood w_448) rfl rfl rfl (hts _ (xm w_4)) (hts _ (xm w_445)) ⟨by decide, by decide, by decide +kernel⟩ ⟨Nat.le_of_ble_eq_true rfl, Nat.le_of_ble_eq_true rfl⟩, (hts _ (xm w_446)), (hts _ (xm w_447))⟩) (qc := (R_N, F_N, 13)) rfl rfl h5 rfl hl.1 rfl (Nat.le_of_ble_eq_true rfl) d_T_leadOn_16 (fun H locs hw => ?_)
      refine W.eq (g2 := F0 m 19 ls [.int r_20]) rfl ?_
      refine lv_istore (lv' := [(5, .int r_20), (4, .int z_17), (0, .ref x0), (1, .int x1), (2, .int x2), (3, .int x3)]) hx hb d_T_leadOn_19 hl (by decide) rfl (fun ls hl => ?_)
      refine lv_iload hx hb d_T_leadOn_21 (lv_at hl 0 rfl) ?_
      refine lv_iload hx hb d_T_leadOn_23 (lv_at hl 1 rfl) ?_
      refine lv_icmp_ne (tgt := 59) hx hb d_T_leadOn_25 (by decide) (fun _ => ?_) (fun c9 => absurd c9 hc6)
      refine lv_iload_n hx hb d_T_leadOn_59 rfl (lv_at hl 4 rfl) ?_
      refine lv_iload_n hx hb d_T_leadOn_60 rfl (lv_at hl 5 rfl) ?_
      refine lv_icmp_ne (tgt := 74) hx hb d_T_leadOn_61 (by decide) (fun c9 => absurd hc15 c9) (fun _ => ?_)
      refine lv_aload_n hx hb d_T_leadOn_64 rfl (lv_at hl 2 rfl) ?_
      refine xr_get hx hb hts (xmu uws_T) hown hw h16 rfl (by decide) (hts _ (xm w_163)) (fun _ h9 => h9) d_T_leadOn_65 ?_
      refine lv_iload_n hx hb d_T_leadOn_68 rfl (lv_at hl 4 rfl) ?_
      refine lv_dup2_11 hx hb d_T_leadOn_69 rfl rfl ?_
      refine xr_iald hx hb hw h17 d_T_leadOn_70 ?_
      refine lv_iconst (v := 1) hx hb d_T_leadOn_71 (by decide) ?_
      refine lv_iadd hx hb d_T_leadOn_72 ?_
      refine xr_iast hx hb hw h18 d_T_leadOn_73 (fun H locs hw => ?_)
      exact xr_vret F rfl hw d_T_leadOn_74
    · have k := k.1 hc15
      have hle_u_19 : x_le u_19 u_19 := x_le.rf u_19
      have hle_u : x_le u u_19 := (hM4.1).tr hle_u_19
      refine ⟨none, u_19, ⟨rfl, k⟩, hle_u, ?_⟩
      intro p e s m args below meth c A H locs ls F hw hl
      obtain ⟨⟨hx, hb, hml, hown, hts⟩, hr, hlocks, hmn⟩ := id F
      refine lv_aload_n hx hb d_T_leadOn_0 rfl (lv_at hl 0 rfl) ?_
      refine xr_get hx hb hts (xmu uws_T) hown hw h1 rfl (by decide) (hts _ (xm w_160)) (fun _ h9 => h9) d_T_leadOn_1 ?_
      refine xr_get hx hb hts (xmu uws_N) hown hw h2 rfl (by decide) (hts _ (xm w_86)) (fun _ h9 => h9) d_T_leadOn_4 ?_
      refine lv_istore (lv' := [(4, .int z_17), (0, .ref x0), (1, .int x1), (2, .int x2), (3, .int x3)]) hx hb d_T_leadOn_7 hl (by decide) rfl (fun ls hl => ?_)
      refine lv_aload_n hx hb d_T_leadOn_9 rfl (lv_at hl 1 rfl) ?_
      refine xr_get hx hb hts (xmu uws_T) hown hw h3 rfl (by decide) (hts _ (xm w_160)) (fun _ h9 => h9) d_T_leadOn_10 ?_
      refine lv_iload_n hx hb d_T_leadOn_13 rfl (lv_at hl 2 rfl) ?_
      refine lv_iload_n hx hb d_T_leadOn_14 rfl (lv_at hl 3 rfl) ?_
      refine lv_iload_n hx hb d_T_leadOn_15 rfl (lv_at hl 4 rfl) ?_
      refine xr_cV (As := [.int x1, .int x2, .int x3]) (rest := []) ⟨hx, hb, hml, hown, hts⟩ hw hM4 hle_u_19 (fun _ _ => ⟨callB_of 3 hts (xgood w_448) rfl rfl rfl (hts _ (xm w_4)) (hts _ (xm w_445)) ⟨by decide, by decide, by decide +kernel⟩ ⟨Nat.le_of_ble_eq_true rfl, Nat.le_of_ble_eq_true rfl⟩, (hts _ (xm w_446)), (hts _ (xm w_447))⟩) (qc := (R_N, F_N, 13)) rfl rfl h5 rfl hl.1 rfl (Nat.le_of_ble_eq_true rfl) d_T_leadOn_16 (fun H locs hw => ?_)
      refine W.eq (g2 := F0 m 19 ls [.int r_20]) rfl ?_
      refine lv_istore (lv' := [(5, .int r_20), (4, .int z_17), (0, .ref x0), (1, .int x1), (2, .int x2), (3, .int x3)]) hx hb d_T_leadOn_19 hl (by decide) rfl (fun ls hl => ?_)
      refine lv_iload hx hb d_T_leadOn_21 (lv_at hl 0 rfl) ?_
      refine lv_iload hx hb d_T_leadOn_23 (lv_at hl 1 rfl) ?_
      refine lv_icmp_ne (tgt := 59) hx hb d_T_leadOn_25 (by decide) (fun _ => ?_) (fun c9 => absurd c9 hc6)
      refine lv_iload_n hx hb d_T_leadOn_59 rfl (lv_at hl 4 rfl) ?_
      refine lv_iload_n hx hb d_T_leadOn_60 rfl (lv_at hl 5 rfl) ?_
      refine lv_icmp_ne (tgt := 74) hx hb d_T_leadOn_61 (by decide) (fun _ => ?_) (fun c9 => absurd c9 hc15)
      exact xr_vret F rfl hw d_T_leadOn_74
set_option maxRecDepth 100000 in
set_option maxHeartbeats 4000000 in
theorem t_T_sinkBelow_J335 (l : Launch) (Z : XZ) (u0 : PS) {Kv : Option Value → PS → Prop} {R : Int32 → Int32 → Int32 → PS → Prop} {E350 : Int32 → Int32 → PS → Prop} (x0 : Nat) (x1 : Int32) (x2 : Int32) (x3 : Nat) (x4 : Nat) (x5 : Int32) (x6 : Int32) (x7 : Int32) (x8 : Int32) (u : PS) (hR : ∀ (y6 : Int32) (y7 : Int32) (y8 : Int32) (v : PS), R y6 y7 y8 v → XN l Z i_T_sinkBelow u0 Kv v 67 [(0, .ref x0), (1, .int x1), (2, .int x2), (3, .ref x3), (4, .ref x4), (5, .int x5), (6, .int y6), (7, .int y7), (8, .int y8)] []) (hE350 : ∀ (y6 : Int32) (y7 : Int32) (v : PS), E350 y6 y7 v → XN l Z i_T_sinkBelow u0 Kv v 350 [(0, .ref x0), (5, .int x5), (6, .int y6), (7, .int y7)] []) (k : (p_T_sinkBelow_J335 R E350 x0 x1 x2 x3 x4 x5 x6 x7 x8 u)) : XN l Z i_T_sinkBelow u0 Kv u 335 [(0, .ref x0), (1, .int x1), (2, .int x2), (3, .ref x3), (4, .ref x4), (5, .int x5), (6, .int x6), (7, .int x7), (8, .int x8)] [] := by
  unfold p_T_sinkBelow_J335 at k
  obtain ⟨y1, ey1⟩ : ∃ y9 : Int32, y9 = x7 + 1 := ⟨_, rfl⟩
  have k := k y1 ey1
  obtain ⟨z_92, h2, k⟩ := k
  obtain ⟨z_93, h3, k⟩ := k
  obtain ⟨rv, v9, hK, hle_u, w9⟩ := hR x6 y1 z_93 u k
  refine ⟨rv, v9, hK, hle_u, ?_⟩
  intro p e s m args below meth c A H locs ls F hw hl
  obtain ⟨⟨hx, hb, hml, hown, hts⟩, hr, hlocks, hmn⟩ := id F
  refine lv_iinc (v := y1) (lv' := [(7, .int y1), (0, .ref x0), (1, .int x1), (2, .int x2), (3, .ref x3), (4, .ref x4), (5, .int x5), (6, .int x6), (8, .int x8)]) hx hb d_T_sinkBelow_335 hl (k := 7) rfl (by subst ey1; rfl) (by decide) rfl (fun ls hl => ?_)
  refine lv_aload_n hx hb d_T_sinkBelow_338 rfl (lv_at hl 1 rfl) ?_
  refine xr_get hx hb hts (xmu uws_T) hown hw h2 rfl (by decide) (hts _ (xm w_167)) (fun _ h9 => h9) d_T_sinkBelow_339 ?_
  refine lv_iload hx hb d_T_sinkBelow_342 (lv_at hl 8 rfl) ?_
  refine xr_iald hx hb hw h3 d_T_sinkBelow_344 ?_
  refine lv_istore (lv' := [(8, .int z_93), (7, .int y1), (0, .ref x0), (1, .int x1), (2, .int x2), (3, .ref x3), (4, .ref x4), (5, .int x5), (6, .int x6)]) hx hb d_T_sinkBelow_345 hl (by decide) rfl (fun ls hl => ?_)
  refine lv_goto (tgt := 67) hx hb d_T_sinkBelow_347 (by decide) ?_
  exact w9 p e s m args below meth c A H locs ls F hw (lv_sub hl [2, 3, 4, 5, 6, 7, 8, 1, 0] rfl)
set_option maxRecDepth 100000 in
set_option maxHeartbeats 4000000 in
theorem t_T_sinkBelow_J286 (l : Launch) (Z : XZ) (u0 : PS) {Kv : Option Value → PS → Prop} {R : Int32 → Int32 → Int32 → PS → Prop} {E350 : Int32 → Int32 → PS → Prop} (x0 : Nat) (x1 : Int32) (x2 : Int32) (x3 : Nat) (x4 : Nat) (x5 : Int32) (x6 : Int32) (x7 : Int32) (x8 : Int32) (x10 : Int32) (x12 : Int32) (u : PS) (hR : ∀ (y6 : Int32) (y7 : Int32) (y8 : Int32) (v : PS), R y6 y7 y8 v → XN l Z i_T_sinkBelow u0 Kv v 67 [(0, .ref x0), (1, .int x1), (2, .int x2), (3, .ref x3), (4, .ref x4), (5, .int x5), (6, .int y6), (7, .int y7), (8, .int y8)] []) (hE350 : ∀ (y6 : Int32) (y7 : Int32) (v : PS), E350 y6 y7 v → XN l Z i_T_sinkBelow u0 Kv v 350 [(0, .ref x0), (5, .int x5), (6, .int y6), (7, .int y7)] []) (k : (p_T_sinkBelow_J286 R E350 x0 x1 x2 x3 x4 x5 x6 x7 x8 x10 x12 u)) : XN l Z i_T_sinkBelow u0 Kv u 286 [(0, .ref x0), (1, .int x1), (2, .int x2), (3, .ref x3), (4, .ref x4), (5, .int x5), (6, .int x6), (7, .int x7), (8, .int x8), (10, .int x10), (12, .int x12)] [] := by
  unfold p_T_sinkBelow_J286 at k
  obtain ⟨z_85, h1, k⟩ := k
  obtain ⟨u_86, h2, k⟩ := k
  obtain ⟨z_87, h3, k⟩ := k
  by_cases hc4 : z_87 = 0
  · have k := k.2 hc4
    obtain ⟨z_88, h5, k⟩ := k
    obtain ⟨u_89, h6, k⟩ := k
    obtain ⟨z_90, h7, k⟩ := k
    obtain ⟨u_91, h8, k⟩ := k
    obtain ⟨y9, ey9⟩ : ∃ y9 : Int32, y9 = x6 + 1 := ⟨_, rfl⟩
    have k := k y9 ey9
    obtain ⟨rv, v9, hK, hle_u_91, w9⟩ := t_T_sinkBelow_J335 l Z u0 x0 x1 x2 x3 x4 x5 y9 x7 x8 u_91 hR hE350 k
    have hle_u_89 : x_le u_89 v9 := (h8.le).tr hle_u_91
    have hle_u_86 : x_le u_86 v9 := (h6.le).tr hle_u_89
    have hle_u : x_le u v9 := (h2.le).tr hle_u_86
    refine ⟨rv, v9, hK, hle_u, ?_⟩
    intro p e s m args below meth c A H locs ls F hw hl
    obtain ⟨⟨hx, hb, hml, hown, hts⟩, hr, hlocks, hmn⟩ := id F
    refine lv_aload hx hb d_T_sinkBelow_286 (lv_at hl 4 rfl) ?_
    refine lv_iload hx hb d_T_sinkBelow_288 (lv_at hl 9 rfl) ?_
    refine lv_dup2_11 hx hb d_T_sinkBelow_290 rfl rfl ?_
    refine xr_iald hx hb hw h1 d_T_sinkBelow_291 ?_
    refine lv_iconst (v := 1) hx hb d_T_sinkBelow_292 (by decide) ?_
    refine lv_isub hx hb d_T_sinkBelow_293 ?_
    refine xr_iast hx hb hw h2 d_T_sinkBelow_294 (fun H locs hw => ?_)
    refine lv_aload hx hb d_T_sinkBelow_295 (lv_at hl 4 rfl) ?_
    refine lv_iload hx hb d_T_sinkBelow_297 (lv_at hl 9 rfl) ?_
    refine xr_iald hx hb hw h3 d_T_sinkBelow_299 ?_
    refine lv_if_ne (tgt := 335) hx hb d_T_sinkBelow_300 (by decide) (fun c9 => absurd hc4 c9) (fun _ => ?_)
    refine lv_aload hx hb d_T_sinkBelow_303 (lv_at hl 4 rfl) ?_
    refine lv_iload hx hb d_T_sinkBelow_305 (lv_at hl 10 rfl) ?_
    refine lv_bipush (v := 14) hx hb d_T_sinkBelow_307 (by decide) ?_
    refine lv_iushr hx hb d_T_sinkBelow_309 rfl ?_
    refine lv_sipush (v := 16383) hx hb d_T_sinkBelow_310 (by decide) ?_
    refine lv_iand hx hb d_T_sinkBelow_313 ?_
    refine lv_dup2_11 hx hb d_T_sinkBelow_314 rfl rfl ?_
    refine xr_iald hx hb hw h5 d_T_sinkBelow_315 ?_
    refine lv_iconst (v := 1) hx hb d_T_sinkBelow_316 (by decide) ?_
    refine lv_isub hx hb d_T_sinkBelow_317 ?_
    refine xr_iast hx hb hw h6 d_T_sinkBelow_318 (fun H locs hw => ?_)
    refine lv_aload hx hb d_T_sinkBelow_319 (lv_at hl 4 rfl) ?_
    refine lv_iload hx hb d_T_sinkBelow_321 (lv_at hl 10 rfl) ?_
    refine lv_sipush (v := 16383) hx hb d_T_sinkBelow_323 (by decide) ?_
    refine lv_iand hx hb d_T_sinkBelow_326 ?_
    refine lv_dup2_11 hx hb d_T_sinkBelow_327 rfl rfl ?_
    refine xr_iald hx hb hw h7 d_T_sinkBelow_328 ?_
    refine lv_iconst (v := 1) hx hb d_T_sinkBelow_329 (by decide) ?_
    refine lv_isub hx hb d_T_sinkBelow_330 ?_
    refine xr_iast hx hb hw h8 d_T_sinkBelow_331 (fun H locs hw => ?_)
    refine lv_iinc (v := y9) (lv' := [(6, .int y9), (0, .ref x0), (1, .int x1), (2, .int x2), (3, .ref x3), (4, .ref x4), (5, .int x5), (7, .int x7), (8, .int x8), (10, .int x10), (12, .int x12)]) hx hb d_T_sinkBelow_332 hl (k := 6) rfl (by subst ey9; rfl) (by decide) rfl (fun ls hl => ?_)
    exact w9 p e s m args below meth c A H locs ls F hw (lv_sub hl [1, 2, 3, 4, 5, 6, 0, 7, 8] rfl)
  · have k := k.1 hc4
    obtain ⟨rv, v9, hK, hle_u_86, w9⟩ := t_T_sinkBelow_J335 l Z u0 x0 x1 x2 x3 x4 x5 x6 x7 x8 u_86 hR hE350 k
    have hle_u : x_le u v9 := (h2.le).tr hle_u_86
    refine ⟨rv, v9, hK, hle_u, ?_⟩
    intro p e s m args below meth c A H locs ls F hw hl
    obtain ⟨⟨hx, hb, hml, hown, hts⟩, hr, hlocks, hmn⟩ := id F
    refine lv_aload hx hb d_T_sinkBelow_286 (lv_at hl 4 rfl) ?_
    refine lv_iload hx hb d_T_sinkBelow_288 (lv_at hl 9 rfl) ?_
    refine lv_dup2_11 hx hb d_T_sinkBelow_290 rfl rfl ?_
    refine xr_iald hx hb hw h1 d_T_sinkBelow_291 ?_
    refine lv_iconst (v := 1) hx hb d_T_sinkBelow_292 (by decide) ?_
    refine lv_isub hx hb d_T_sinkBelow_293 ?_
    refine xr_iast hx hb hw h2 d_T_sinkBelow_294 (fun H locs hw => ?_)
    refine lv_aload hx hb d_T_sinkBelow_295 (lv_at hl 4 rfl) ?_
    refine lv_iload hx hb d_T_sinkBelow_297 (lv_at hl 9 rfl) ?_
    refine xr_iald hx hb hw h3 d_T_sinkBelow_299 ?_
    refine lv_if_ne (tgt := 335) hx hb d_T_sinkBelow_300 (by decide) (fun _ => ?_) (fun c9 => absurd c9 hc4)
    exact w9 p e s m args below meth c A H locs ls F hw (lv_sub hl [0, 1, 2, 3, 4, 5, 6, 7, 8] rfl)
set_option maxRecDepth 100000 in
set_option maxHeartbeats 4000000 in
theorem t_T_sinkBelow_J237 (l : Launch) (Z : XZ) (u0 : PS) {Kv : Option Value → PS → Prop} {R : Int32 → Int32 → Int32 → PS → Prop} {E350 : Int32 → Int32 → PS → Prop} (x0 : Nat) (x1 : Int32) (x2 : Int32) (x3 : Nat) (x4 : Nat) (x5 : Int32) (x6 : Int32) (x7 : Int32) (x8 : Int32) (x9 : Int32) (x10 : Int32) (x11 : Int32) (x12 : Int32) (u : PS) (hR : ∀ (y6 : Int32) (y7 : Int32) (y8 : Int32) (v : PS), R y6 y7 y8 v → XN l Z i_T_sinkBelow u0 Kv v 67 [(0, .ref x0), (1, .int x1), (2, .int x2), (3, .ref x3), (4, .ref x4), (5, .int x5), (6, .int y6), (7, .int y7), (8, .int y8)] []) (hE350 : ∀ (y6 : Int32) (y7 : Int32) (v : PS), E350 y6 y7 v → XN l Z i_T_sinkBelow u0 Kv v 350 [(0, .ref x0), (5, .int x5), (6, .int y6), (7, .int y7)] []) (k : (p_T_sinkBelow_J237 R E350 x0 x1 x2 x3 x4 x5 x6 x7 x8 x9 x10 x11 x12 u)) : XN l Z i_T_sinkBelow u0 Kv u 237 [(0, .ref x0), (1, .int x1), (2, .int x2), (3, .ref x3), (4, .ref x4), (5, .int x5), (6, .int x6), (7, .int x7), (8, .int x8), (9, .int x9), (10, .int x10), (11, .int x11), (12, .int x12)] [] := by
  unfold p_T_sinkBelow_J237 at k
  obtain ⟨z_78, h1, k⟩ := k
  obtain ⟨u_79, h2, k⟩ := k
  obtain ⟨z_80, h3, k⟩ := k
  by_cases hc4 : z_80 = 0
  · have k := k.2 hc4
    obtain ⟨z_81, h5, k⟩ := k
    obtain ⟨u_82, h6, k⟩ := k
    obtain ⟨z_83, h7, k⟩ := k
    obtain ⟨u_84, h8, k⟩ := k
    obtain ⟨y9, ey9⟩ : ∃ y9 : Int32, y9 = x6 + 1 := ⟨_, rfl⟩
    have k := k y9 ey9
    obtain ⟨rv, v9, hK, hle_u_84, w9⟩ := t_T_sinkBelow_J286 l Z u0 x0 x1 x2 x3 x4 x5 y9 x7 x8 x10 x12 u_84 hR hE350 k
    have hle_u_82 : x_le u_82 v9 := (h8.le).tr hle_u_84
    have hle_u_79 : x_le u_79 v9 := (h6.le).tr hle_u_82
    have hle_u : x_le u v9 := (h2.le).tr hle_u_79
    refine ⟨rv, v9, hK, hle_u, ?_⟩
    intro p e s m args below meth c A H locs ls F hw hl
    obtain ⟨⟨hx, hb, hml, hown, hts⟩, hr, hlocks, hmn⟩ := id F
    refine lv_aload hx hb d_T_sinkBelow_237 (lv_at hl 4 rfl) ?_
    refine lv_iload hx hb d_T_sinkBelow_239 (lv_at hl 9 rfl) ?_
    refine lv_dup2_11 hx hb d_T_sinkBelow_241 rfl rfl ?_
    refine xr_iald hx hb hw h1 d_T_sinkBelow_242 ?_
    refine lv_iconst (v := 1) hx hb d_T_sinkBelow_243 (by decide) ?_
    refine lv_isub hx hb d_T_sinkBelow_244 ?_
    refine xr_iast hx hb hw h2 d_T_sinkBelow_245 (fun H locs hw => ?_)
    refine lv_aload hx hb d_T_sinkBelow_246 (lv_at hl 4 rfl) ?_
    refine lv_iload hx hb d_T_sinkBelow_248 (lv_at hl 9 rfl) ?_
    refine xr_iald hx hb hw h3 d_T_sinkBelow_250 ?_
    refine lv_if_ne (tgt := 286) hx hb d_T_sinkBelow_251 (by decide) (fun c9 => absurd hc4 c9) (fun _ => ?_)
    refine lv_aload hx hb d_T_sinkBelow_254 (lv_at hl 4 rfl) ?_
    refine lv_iload hx hb d_T_sinkBelow_256 (lv_at hl 11 rfl) ?_
    refine lv_bipush (v := 14) hx hb d_T_sinkBelow_258 (by decide) ?_
    refine lv_iushr hx hb d_T_sinkBelow_260 rfl ?_
    refine lv_sipush (v := 16383) hx hb d_T_sinkBelow_261 (by decide) ?_
    refine lv_iand hx hb d_T_sinkBelow_264 ?_
    refine lv_dup2_11 hx hb d_T_sinkBelow_265 rfl rfl ?_
    refine xr_iald hx hb hw h5 d_T_sinkBelow_266 ?_
    refine lv_iconst (v := 1) hx hb d_T_sinkBelow_267 (by decide) ?_
    refine lv_isub hx hb d_T_sinkBelow_268 ?_
    refine xr_iast hx hb hw h6 d_T_sinkBelow_269 (fun H locs hw => ?_)
    refine lv_aload hx hb d_T_sinkBelow_270 (lv_at hl 4 rfl) ?_
    refine lv_iload hx hb d_T_sinkBelow_272 (lv_at hl 11 rfl) ?_
    refine lv_sipush (v := 16383) hx hb d_T_sinkBelow_274 (by decide) ?_
    refine lv_iand hx hb d_T_sinkBelow_277 ?_
    refine lv_dup2_11 hx hb d_T_sinkBelow_278 rfl rfl ?_
    refine xr_iald hx hb hw h7 d_T_sinkBelow_279 ?_
    refine lv_iconst (v := 1) hx hb d_T_sinkBelow_280 (by decide) ?_
    refine lv_isub hx hb d_T_sinkBelow_281 ?_
    refine xr_iast hx hb hw h8 d_T_sinkBelow_282 (fun H locs hw => ?_)
    refine lv_iinc (v := y9) (lv' := [(6, .int y9), (0, .ref x0), (1, .int x1), (2, .int x2), (3, .ref x3), (4, .ref x4), (5, .int x5), (7, .int x7), (8, .int x8), (9, .int x9), (10, .int x10), (11, .int x11), (12, .int x12)]) hx hb d_T_sinkBelow_283 hl (k := 6) rfl (by subst ey9; rfl) (by decide) rfl (fun ls hl => ?_)
    exact w9 p e s m args below meth c A H locs ls F hw (lv_sub hl [1, 2, 3, 4, 5, 6, 0, 7, 8, 10, 12] rfl)
  · have k := k.1 hc4
    obtain ⟨rv, v9, hK, hle_u_79, w9⟩ := t_T_sinkBelow_J286 l Z u0 x0 x1 x2 x3 x4 x5 x6 x7 x8 x10 x12 u_79 hR hE350 k
    have hle_u : x_le u v9 := (h2.le).tr hle_u_79
    refine ⟨rv, v9, hK, hle_u, ?_⟩
    intro p e s m args below meth c A H locs ls F hw hl
    obtain ⟨⟨hx, hb, hml, hown, hts⟩, hr, hlocks, hmn⟩ := id F
    refine lv_aload hx hb d_T_sinkBelow_237 (lv_at hl 4 rfl) ?_
    refine lv_iload hx hb d_T_sinkBelow_239 (lv_at hl 9 rfl) ?_
    refine lv_dup2_11 hx hb d_T_sinkBelow_241 rfl rfl ?_
    refine xr_iald hx hb hw h1 d_T_sinkBelow_242 ?_
    refine lv_iconst (v := 1) hx hb d_T_sinkBelow_243 (by decide) ?_
    refine lv_isub hx hb d_T_sinkBelow_244 ?_
    refine xr_iast hx hb hw h2 d_T_sinkBelow_245 (fun H locs hw => ?_)
    refine lv_aload hx hb d_T_sinkBelow_246 (lv_at hl 4 rfl) ?_
    refine lv_iload hx hb d_T_sinkBelow_248 (lv_at hl 9 rfl) ?_
    refine xr_iald hx hb hw h3 d_T_sinkBelow_250 ?_
    refine lv_if_ne (tgt := 286) hx hb d_T_sinkBelow_251 (by decide) (fun _ => ?_) (fun c9 => absurd c9 hc4)
    exact w9 p e s m args below meth c A H locs ls F hw (lv_sub hl [0, 1, 2, 3, 4, 5, 6, 7, 8, 10, 12] rfl)
set_option maxRecDepth 100000 in
set_option maxHeartbeats 4000000 in
theorem t_T_sinkBelow_L67 (l : Launch) (Z : XZ) (u0 : PS) {Kv : Option Value → PS → Prop} {E350 : Int32 → Int32 → PS → Prop} (x0 : Nat) (x1 : Int32) (x2 : Int32) (x3 : Nat) (x4 : Nat) (x5 : Int32) (hE350 : ∀ (y6 : Int32) (y7 : Int32) (v : PS), E350 y6 y7 v → XN l Z i_T_sinkBelow u0 Kv v 350 [(0, .ref x0), (5, .int x5), (6, .int y6), (7, .int y7)] []) : ∀ (n : Nat) (x6 : Int32) (x7 : Int32) (x8 : Int32) (u : PS), p_T_sinkBelow_L67 x0 x1 x2 x3 x4 x5 E350 n x6 x7 x8 u → XN l Z i_T_sinkBelow u0 Kv u 67 [(0, .ref x0), (1, .int x1), (2, .int x2), (3, .ref x3), (4, .ref x4), (5, .int x5), (6, .int x6), (7, .int x7), (8, .int x8)] [] := by
  intro n
  induction n with
  | zero => intro x6 x7 x8 u k; exact False.elim k
  | succ n ih =>
    intro x6 x7 x8 u k
    rw [p_T_sinkBelow_L67] at k
    by_cases hc1 : x8 = 0
    · have k := k.1 hc1
      obtain ⟨rv, v9, hK, hle_u, w9⟩ := hE350 x6 x7 u k
      refine ⟨rv, v9, hK, hle_u, ?_⟩
      intro p e s m args below meth c A H locs ls F hw hl
      obtain ⟨⟨hx, hb, hml, hown, hts⟩, hr, hlocks, hmn⟩ := id F
      refine lv_iload hx hb d_T_sinkBelow_67 (lv_at hl 8 rfl) ?_
      refine lv_if_eq (tgt := 350) hx hb d_T_sinkBelow_69 (by decide) (fun _ => ?_) (fun c9 => absurd hc1 c9)
      exact w9 p e s m args below meth c A H locs ls F hw (lv_sub hl [0, 5, 6, 7] rfl)
    · have k := k.2 hc1
      by_cases hc2 : 16384 ≤ x7
      · have k := k.1 hc2
        obtain ⟨rv, v9, hK, hle_u, w9⟩ := hE350 x6 x7 u k
        refine ⟨rv, v9, hK, hle_u, ?_⟩
        intro p e s m args below meth c A H locs ls F hw hl
        obtain ⟨⟨hx, hb, hml, hown, hts⟩, hr, hlocks, hmn⟩ := id F
        refine lv_iload hx hb d_T_sinkBelow_67 (lv_at hl 8 rfl) ?_
        refine lv_if_eq (tgt := 350) hx hb d_T_sinkBelow_69 (by decide) (fun c9 => absurd c9 hc1) (fun _ => ?_)
        refine lv_iload hx hb d_T_sinkBelow_72 (lv_at hl 7 rfl) ?_
        refine lv_sipush (v := 16384) hx hb d_T_sinkBelow_74 (by decide) ?_
        refine lv_icmp_ge (tgt := 350) hx hb d_T_sinkBelow_77 (by decide) (fun _ => ?_) (fun c9 => absurd hc2 c9)
        exact w9 p e s m args below meth c A H locs ls F hw (lv_sub hl [0, 5, 6, 7] rfl)
      · have k := k.2 hc2
        obtain ⟨z_72, h3, k⟩ := k
        obtain ⟨y4, ey4⟩ : ∃ y9 : Int32, y9 = (((z_72.toUInt32 >>> ((14 : Int32).toUInt32 &&& Int32.toUInt32 31)).toInt32) &&& (16383 : Int32)) := ⟨_, rfl⟩
        have k := k y4 ey4
        obtain ⟨z_73, h5, k⟩ := k
        obtain ⟨y6, ey6⟩ : ∃ y9 : Int32, y9 = (z_73 &&& (16383 : Int32)) := ⟨_, rfl⟩
        have k := k y6 ey6
        obtain ⟨z_74, h7, k⟩ := k
        obtain ⟨z_75, h8, k⟩ := k
        by_cases hc9 : ((z_74.toUInt32 >>> ((28 : Int32).toUInt32 &&& Int32.toUInt32 31)).toInt32) = x2
        · have k := k.1 hc9
          by_cases hc10 : ((z_75.toUInt32 >>> ((28 : Int32).toUInt32 &&& Int32.toUInt32 31)).toInt32) = x2
          · have k := k.1 hc10
            obtain ⟨h12, k⟩ := k
            obtain ⟨_, u_76, ⟨rfl, k⟩, hM11⟩ := c_T_leadOn l Z x0 x1 (((z_74.toUInt32 >>> ((14 : Int32).toUInt32 &&& Int32.toUInt32 31)).toInt32) &&& (16383 : Int32)) (((z_75.toUInt32 >>> ((14 : Int32).toUInt32 &&& Int32.toUInt32 31)).toInt32) &&& (16383 : Int32)) u _ k
            obtain ⟨h14, k⟩ := k
            obtain ⟨_, u_77, ⟨rfl, k⟩, hM13⟩ := c_T_leadOn l Z x0 x1 (z_74 &&& (16383 : Int32)) (z_75 &&& (16383 : Int32)) u_76 _ k
            obtain ⟨rv, v9, hK, hle_u_77, w9⟩ := t_T_sinkBelow_J237 l Z u0 x0 x1 x2 x3 x4 x5 x6 x7 x8 y4 y6 z_74 z_75 u_77 ih hE350 k
            have hle_u_76 : x_le u_76 v9 := (hM13.1).tr hle_u_77
            have hle_u : x_le u v9 := (hM11.1).tr hle_u_76
            refine ⟨rv, v9, hK, hle_u, ?_⟩
            intro p e s m args below meth c A H locs ls F hw hl
            obtain ⟨⟨hx, hb, hml, hown, hts⟩, hr, hlocks, hmn⟩ := id F
            refine lv_iload hx hb d_T_sinkBelow_67 (lv_at hl 8 rfl) ?_
            refine lv_if_eq (tgt := 350) hx hb d_T_sinkBelow_69 (by decide) (fun c9 => absurd c9 hc1) (fun _ => ?_)
            refine lv_iload hx hb d_T_sinkBelow_72 (lv_at hl 7 rfl) ?_
            refine lv_sipush (v := 16384) hx hb d_T_sinkBelow_74 (by decide) ?_
            refine lv_icmp_ge (tgt := 350) hx hb d_T_sinkBelow_77 (by decide) (fun c9 => absurd c9 hc2) (fun _ => ?_)
            refine lv_aload_n hx hb d_T_sinkBelow_80 rfl (lv_at hl 3 rfl) ?_
            refine lv_iload hx hb d_T_sinkBelow_81 (lv_at hl 8 rfl) ?_
            refine xr_iald hx hb hw h3 d_T_sinkBelow_83 ?_
            refine lv_bipush (v := 14) hx hb d_T_sinkBelow_84 (by decide) ?_
            refine lv_iushr hx hb d_T_sinkBelow_86 rfl ?_
            refine lv_sipush (v := 16383) hx hb d_T_sinkBelow_87 (by decide) ?_
            refine lv_iand hx hb d_T_sinkBelow_90 ?_
            refine lv_istore (lv' := [(9, .int y4), (0, .ref x0), (1, .int x1), (2, .int x2), (3, .ref x3), (4, .ref x4), (5, .int x5), (6, .int x6), (7, .int x7), (8, .int x8)]) hx hb d_T_sinkBelow_91 hl (by decide) (by subst ey4; rfl) (fun ls hl => ?_)
            refine lv_aload_n hx hb d_T_sinkBelow_93 rfl (lv_at hl 4 rfl) ?_
            refine lv_iload hx hb d_T_sinkBelow_94 (lv_at hl 9 rfl) ?_
            refine xr_iald hx hb hw h5 d_T_sinkBelow_96 ?_
            refine lv_sipush (v := 16383) hx hb d_T_sinkBelow_97 (by decide) ?_
            refine lv_iand hx hb d_T_sinkBelow_100 ?_
            refine lv_istore (lv' := [(10, .int y6), (9, .int y4), (0, .ref x0), (1, .int x1), (2, .int x2), (3, .ref x3), (4, .ref x4), (5, .int x5), (6, .int x6), (7, .int x7), (8, .int x8)]) hx hb d_T_sinkBelow_101 hl (by decide) (by subst ey6; rfl) (fun ls hl => ?_)
            refine lv_aload_n hx hb d_T_sinkBelow_103 rfl (lv_at hl 5 rfl) ?_
            refine lv_iload hx hb d_T_sinkBelow_104 (lv_at hl 1 rfl) ?_
            refine xr_iald hx hb hw h7 d_T_sinkBelow_106 ?_
            refine lv_istore (lv' := [(11, .int z_74), (10, .int y6), (9, .int y4), (0, .ref x0), (1, .int x1), (2, .int x2), (3, .ref x3), (4, .ref x4), (5, .int x5), (6, .int x6), (7, .int x7), (8, .int x8)]) hx hb d_T_sinkBelow_107 hl (by decide) rfl (fun ls hl => ?_)
            refine lv_aload_n hx hb d_T_sinkBelow_109 rfl (lv_at hl 6 rfl) ?_
            refine lv_iload hx hb d_T_sinkBelow_110 (lv_at hl 1 rfl) ?_
            refine xr_iald hx hb hw h8 d_T_sinkBelow_112 ?_
            refine lv_istore (lv' := [(12, .int z_75), (11, .int z_74), (10, .int y6), (9, .int y4), (0, .ref x0), (1, .int x1), (2, .int x2), (3, .ref x3), (4, .ref x4), (5, .int x5), (6, .int x6), (7, .int x7), (8, .int x8)]) hx hb d_T_sinkBelow_113 hl (by decide) rfl (fun ls hl => ?_)
            refine lv_iload hx hb d_T_sinkBelow_115 (lv_at hl 1 rfl) ?_
            refine lv_bipush (v := 28) hx hb d_T_sinkBelow_117 (by decide) ?_
            refine lv_iushr hx hb d_T_sinkBelow_119 rfl ?_
            refine lv_iload_n hx hb d_T_sinkBelow_120 rfl (lv_at hl 6 rfl) ?_
            refine lv_icmp_eq (tgt := 156) hx hb d_T_sinkBelow_121 (by decide) (fun _ => ?_) (fun c9 => absurd hc9 c9)
            refine lv_iload hx hb d_T_sinkBelow_156 (lv_at hl 0 rfl) ?_
            refine lv_bipush (v := 28) hx hb d_T_sinkBelow_158 (by decide) ?_
            refine lv_iushr hx hb d_T_sinkBelow_160 rfl ?_
            refine lv_iload_n hx hb d_T_sinkBelow_161 rfl (lv_at hl 6 rfl) ?_
            refine lv_icmp_eq (tgt := 197) hx hb d_T_sinkBelow_162 (by decide) (fun _ => ?_) (fun c9 => absurd hc10 c9)
            refine lv_aload_n hx hb d_T_sinkBelow_197 rfl (lv_at hl 4 rfl) ?_
            refine lv_iload_n hx hb d_T_sinkBelow_198 rfl (lv_at hl 5 rfl) ?_
            refine lv_iload hx hb d_T_sinkBelow_199 (lv_at hl 1 rfl) ?_
            refine lv_bipush (v := 14) hx hb d_T_sinkBelow_201 (by decide) ?_
            refine lv_iushr hx hb d_T_sinkBelow_203 rfl ?_
            refine lv_sipush (v := 16383) hx hb d_T_sinkBelow_204 (by decide) ?_
            refine lv_iand hx hb d_T_sinkBelow_207 ?_
            refine lv_iload hx hb d_T_sinkBelow_208 (lv_at hl 0 rfl) ?_
            refine lv_bipush (v := 14) hx hb d_T_sinkBelow_210 (by decide) ?_
            refine lv_iushr hx hb d_T_sinkBelow_212 rfl ?_
            refine lv_sipush (v := 16383) hx hb d_T_sinkBelow_213 (by decide) ?_
            refine lv_iand hx hb d_T_sinkBelow_216 ?_
            refine xr_cV (As := [.int x1, .int (((z_74.toUInt32 >>> ((14 : Int32).toUInt32 &&& Int32.toUInt32 31)).toInt32) &&& (16383 : Int32)), .int (((z_75.toUInt32 >>> ((14 : Int32).toUInt32 &&& Int32.toUInt32 31)).toInt32) &&& (16383 : Int32))]) (rest := []) ⟨hx, hb, hml, hown, hts⟩ hw hM11 hle_u_76 (fun _ _ => ⟨callB_of 3 hts (xgood w_476) rfl rfl rfl (hts _ (xm w_7)) (hts _ (xm w_473)) ⟨by decide, by decide, by decide +kernel⟩ ⟨Nat.le_of_ble_eq_true rfl, Nat.le_of_ble_eq_true rfl⟩, (hts _ (xm w_475)), (hts _ (xm wp_25))⟩) (qc := (R_T, F_T, 10)) rfl rfl h12 rfl hl.1 rfl (Nat.le_of_ble_eq_true rfl) d_T_sinkBelow_217 (fun H locs hw => ?_)
            refine W.eq (g2 := F0 m 220 ls []) rfl ?_
            refine lv_aload_n hx hb d_T_sinkBelow_220 rfl (lv_at hl 4 rfl) ?_
            refine lv_iload_n hx hb d_T_sinkBelow_221 rfl (lv_at hl 5 rfl) ?_
            refine lv_iload hx hb d_T_sinkBelow_222 (lv_at hl 1 rfl) ?_
            refine lv_sipush (v := 16383) hx hb d_T_sinkBelow_224 (by decide) ?_
            refine lv_iand hx hb d_T_sinkBelow_227 ?_
            refine lv_iload hx hb d_T_sinkBelow_228 (lv_at hl 0 rfl) ?_
            refine lv_sipush (v := 16383) hx hb d_T_sinkBelow_230 (by decide) ?_
            refine lv_iand hx hb d_T_sinkBelow_233 ?_
            refine xr_cV (As := [.int x1, .int (z_74 &&& (16383 : Int32)), .int (z_75 &&& (16383 : Int32))]) (rest := []) ⟨hx, hb, hml, hown, hts⟩ hw hM13 hle_u_77 (fun _ _ => ⟨callB_of 3 hts (xgood w_476) rfl rfl rfl (hts _ (xm w_7)) (hts _ (xm w_473)) ⟨by decide, by decide, by decide +kernel⟩ ⟨Nat.le_of_ble_eq_true rfl, Nat.le_of_ble_eq_true rfl⟩, (hts _ (xm w_475)), (hts _ (xm wp_25))⟩) (qc := (R_T, F_T, 10)) rfl rfl h14 rfl hl.1 rfl (Nat.le_of_ble_eq_true rfl) d_T_sinkBelow_234 (fun H locs hw => ?_)
            refine W.eq (g2 := F0 m 237 ls []) rfl ?_
            exact w9 p e s m args below meth c A H locs ls F hw (lv_sub hl [4, 5, 6, 7, 8, 9, 10, 11, 12, 3, 2, 1, 0] rfl)
          · have k := k.2 hc10
            obtain ⟨h16, k⟩ := k
            obtain ⟨_, u_94, ⟨rfl, k⟩, hM15⟩ := c_T_leadOn l Z x0 x1 (((z_74.toUInt32 >>> ((14 : Int32).toUInt32 &&& Int32.toUInt32 31)).toInt32) &&& (16383 : Int32)) y6 u _ k
            obtain ⟨h18, k⟩ := k
            obtain ⟨_, u_95, ⟨rfl, k⟩, hM17⟩ := c_T_leadOn l Z x0 x1 (z_74 &&& (16383 : Int32)) y6 u_94 _ k
            obtain ⟨rv, v9, hK, hle_u_95, w9⟩ := t_T_sinkBelow_J237 l Z u0 x0 x1 x2 x3 x4 x5 x6 x7 x8 y4 y6 z_74 z_75 u_95 ih hE350 k
            have hle_u_94 : x_le u_94 v9 := (hM17.1).tr hle_u_95
            have hle_u : x_le u v9 := (hM15.1).tr hle_u_94
            refine ⟨rv, v9, hK, hle_u, ?_⟩
            intro p e s m args below meth c A H locs ls F hw hl
            obtain ⟨⟨hx, hb, hml, hown, hts⟩, hr, hlocks, hmn⟩ := id F
            refine lv_iload hx hb d_T_sinkBelow_67 (lv_at hl 8 rfl) ?_
            refine lv_if_eq (tgt := 350) hx hb d_T_sinkBelow_69 (by decide) (fun c9 => absurd c9 hc1) (fun _ => ?_)
            refine lv_iload hx hb d_T_sinkBelow_72 (lv_at hl 7 rfl) ?_
            refine lv_sipush (v := 16384) hx hb d_T_sinkBelow_74 (by decide) ?_
            refine lv_icmp_ge (tgt := 350) hx hb d_T_sinkBelow_77 (by decide) (fun c9 => absurd c9 hc2) (fun _ => ?_)
            refine lv_aload_n hx hb d_T_sinkBelow_80 rfl (lv_at hl 3 rfl) ?_
            refine lv_iload hx hb d_T_sinkBelow_81 (lv_at hl 8 rfl) ?_
            refine xr_iald hx hb hw h3 d_T_sinkBelow_83 ?_
            refine lv_bipush (v := 14) hx hb d_T_sinkBelow_84 (by decide) ?_
            refine lv_iushr hx hb d_T_sinkBelow_86 rfl ?_
            refine lv_sipush (v := 16383) hx hb d_T_sinkBelow_87 (by decide) ?_
            refine lv_iand hx hb d_T_sinkBelow_90 ?_
            refine lv_istore (lv' := [(9, .int y4), (0, .ref x0), (1, .int x1), (2, .int x2), (3, .ref x3), (4, .ref x4), (5, .int x5), (6, .int x6), (7, .int x7), (8, .int x8)]) hx hb d_T_sinkBelow_91 hl (by decide) (by subst ey4; rfl) (fun ls hl => ?_)
            refine lv_aload_n hx hb d_T_sinkBelow_93 rfl (lv_at hl 4 rfl) ?_
            refine lv_iload hx hb d_T_sinkBelow_94 (lv_at hl 9 rfl) ?_
            refine xr_iald hx hb hw h5 d_T_sinkBelow_96 ?_
            refine lv_sipush (v := 16383) hx hb d_T_sinkBelow_97 (by decide) ?_
            refine lv_iand hx hb d_T_sinkBelow_100 ?_
            refine lv_istore (lv' := [(10, .int y6), (9, .int y4), (0, .ref x0), (1, .int x1), (2, .int x2), (3, .ref x3), (4, .ref x4), (5, .int x5), (6, .int x6), (7, .int x7), (8, .int x8)]) hx hb d_T_sinkBelow_101 hl (by decide) (by subst ey6; rfl) (fun ls hl => ?_)
            refine lv_aload_n hx hb d_T_sinkBelow_103 rfl (lv_at hl 5 rfl) ?_
            refine lv_iload hx hb d_T_sinkBelow_104 (lv_at hl 1 rfl) ?_
            refine xr_iald hx hb hw h7 d_T_sinkBelow_106 ?_
            refine lv_istore (lv' := [(11, .int z_74), (10, .int y6), (9, .int y4), (0, .ref x0), (1, .int x1), (2, .int x2), (3, .ref x3), (4, .ref x4), (5, .int x5), (6, .int x6), (7, .int x7), (8, .int x8)]) hx hb d_T_sinkBelow_107 hl (by decide) rfl (fun ls hl => ?_)
            refine lv_aload_n hx hb d_T_sinkBelow_109 rfl (lv_at hl 6 rfl) ?_
            refine lv_iload hx hb d_T_sinkBelow_110 (lv_at hl 1 rfl) ?_
            refine xr_iald hx hb hw h8 d_T_sinkBelow_112 ?_
            refine lv_istore (lv' := [(12, .int z_75), (11, .int z_74), (10, .int y6), (9, .int y4), (0, .ref x0), (1, .int x1), (2, .int x2), (3, .ref x3), (4, .ref x4), (5, .int x5), (6, .int x6), (7, .int x7), (8, .int x8)]) hx hb d_T_sinkBelow_113 hl (by decide) rfl (fun ls hl => ?_)
            refine lv_iload hx hb d_T_sinkBelow_115 (lv_at hl 1 rfl) ?_
            refine lv_bipush (v := 28) hx hb d_T_sinkBelow_117 (by decide) ?_
            refine lv_iushr hx hb d_T_sinkBelow_119 rfl ?_
            refine lv_iload_n hx hb d_T_sinkBelow_120 rfl (lv_at hl 6 rfl) ?_
            refine lv_icmp_eq (tgt := 156) hx hb d_T_sinkBelow_121 (by decide) (fun _ => ?_) (fun c9 => absurd hc9 c9)
            refine lv_iload hx hb d_T_sinkBelow_156 (lv_at hl 0 rfl) ?_
            refine lv_bipush (v := 28) hx hb d_T_sinkBelow_158 (by decide) ?_
            refine lv_iushr hx hb d_T_sinkBelow_160 rfl ?_
            refine lv_iload_n hx hb d_T_sinkBelow_161 rfl (lv_at hl 6 rfl) ?_
            refine lv_icmp_eq (tgt := 197) hx hb d_T_sinkBelow_162 (by decide) (fun c9 => absurd c9 hc10) (fun _ => ?_)
            refine lv_aload_n hx hb d_T_sinkBelow_165 rfl (lv_at hl 4 rfl) ?_
            refine lv_iload_n hx hb d_T_sinkBelow_166 rfl (lv_at hl 5 rfl) ?_
            refine lv_iload hx hb d_T_sinkBelow_167 (lv_at hl 1 rfl) ?_
            refine lv_bipush (v := 14) hx hb d_T_sinkBelow_169 (by decide) ?_
            refine lv_iushr hx hb d_T_sinkBelow_171 rfl ?_
            refine lv_sipush (v := 16383) hx hb d_T_sinkBelow_172 (by decide) ?_
            refine lv_iand hx hb d_T_sinkBelow_175 ?_
            refine lv_iload hx hb d_T_sinkBelow_176 (lv_at hl 2 rfl) ?_
            refine xr_cV (As := [.int x1, .int (((z_74.toUInt32 >>> ((14 : Int32).toUInt32 &&& Int32.toUInt32 31)).toInt32) &&& (16383 : Int32)), .int y6]) (rest := []) ⟨hx, hb, hml, hown, hts⟩ hw hM15 hle_u_94 (fun _ _ => ⟨callB_of 3 hts (xgood w_476) rfl rfl rfl (hts _ (xm w_7)) (hts _ (xm w_473)) ⟨by decide, by decide, by decide +kernel⟩ ⟨Nat.le_of_ble_eq_true rfl, Nat.le_of_ble_eq_true rfl⟩, (hts _ (xm w_475)), (hts _ (xm wp_25))⟩) (qc := (R_T, F_T, 10)) rfl rfl h16 rfl hl.1 rfl (Nat.le_of_ble_eq_true rfl) d_T_sinkBelow_178 (fun H locs hw => ?_)
            refine W.eq (g2 := F0 m 181 ls []) rfl ?_
            refine lv_aload_n hx hb d_T_sinkBelow_181 rfl (lv_at hl 4 rfl) ?_
            refine lv_iload_n hx hb d_T_sinkBelow_182 rfl (lv_at hl 5 rfl) ?_
            refine lv_iload hx hb d_T_sinkBelow_183 (lv_at hl 1 rfl) ?_
            refine lv_sipush (v := 16383) hx hb d_T_sinkBelow_185 (by decide) ?_
            refine lv_iand hx hb d_T_sinkBelow_188 ?_
            refine lv_iload hx hb d_T_sinkBelow_189 (lv_at hl 2 rfl) ?_
            refine xr_cV (As := [.int x1, .int (z_74 &&& (16383 : Int32)), .int y6]) (rest := []) ⟨hx, hb, hml, hown, hts⟩ hw hM17 hle_u_95 (fun _ _ => ⟨callB_of 3 hts (xgood w_476) rfl rfl rfl (hts _ (xm w_7)) (hts _ (xm w_473)) ⟨by decide, by decide, by decide +kernel⟩ ⟨Nat.le_of_ble_eq_true rfl, Nat.le_of_ble_eq_true rfl⟩, (hts _ (xm w_475)), (hts _ (xm wp_25))⟩) (qc := (R_T, F_T, 10)) rfl rfl h18 rfl hl.1 rfl (Nat.le_of_ble_eq_true rfl) d_T_sinkBelow_191 (fun H locs hw => ?_)
            refine W.eq (g2 := F0 m 194 ls []) rfl ?_
            refine lv_goto (tgt := 237) hx hb d_T_sinkBelow_194 (by decide) ?_
            exact w9 p e s m args below meth c A H locs ls F hw (lv_sub hl [4, 5, 6, 7, 8, 9, 10, 11, 12, 3, 2, 1, 0] rfl)
        · have k := k.2 hc9
          obtain ⟨h20, k⟩ := k
          obtain ⟨_, u_96, ⟨rfl, k⟩, hM19⟩ := c_T_leadOn l Z x0 x1 y4 (((z_75.toUInt32 >>> ((14 : Int32).toUInt32 &&& Int32.toUInt32 31)).toInt32) &&& (16383 : Int32)) u _ k
          obtain ⟨h22, k⟩ := k
          obtain ⟨_, u_97, ⟨rfl, k⟩, hM21⟩ := c_T_leadOn l Z x0 x1 y4 (z_75 &&& (16383 : Int32)) u_96 _ k
          obtain ⟨rv, v9, hK, hle_u_97, w9⟩ := t_T_sinkBelow_J237 l Z u0 x0 x1 x2 x3 x4 x5 x6 x7 x8 y4 y6 z_74 z_75 u_97 ih hE350 k
          have hle_u_96 : x_le u_96 v9 := (hM21.1).tr hle_u_97
          have hle_u : x_le u v9 := (hM19.1).tr hle_u_96
          refine ⟨rv, v9, hK, hle_u, ?_⟩
          intro p e s m args below meth c A H locs ls F hw hl
          obtain ⟨⟨hx, hb, hml, hown, hts⟩, hr, hlocks, hmn⟩ := id F
          refine lv_iload hx hb d_T_sinkBelow_67 (lv_at hl 8 rfl) ?_
          refine lv_if_eq (tgt := 350) hx hb d_T_sinkBelow_69 (by decide) (fun c9 => absurd c9 hc1) (fun _ => ?_)
          refine lv_iload hx hb d_T_sinkBelow_72 (lv_at hl 7 rfl) ?_
          refine lv_sipush (v := 16384) hx hb d_T_sinkBelow_74 (by decide) ?_
          refine lv_icmp_ge (tgt := 350) hx hb d_T_sinkBelow_77 (by decide) (fun c9 => absurd c9 hc2) (fun _ => ?_)
          refine lv_aload_n hx hb d_T_sinkBelow_80 rfl (lv_at hl 3 rfl) ?_
          refine lv_iload hx hb d_T_sinkBelow_81 (lv_at hl 8 rfl) ?_
          refine xr_iald hx hb hw h3 d_T_sinkBelow_83 ?_
          refine lv_bipush (v := 14) hx hb d_T_sinkBelow_84 (by decide) ?_
          refine lv_iushr hx hb d_T_sinkBelow_86 rfl ?_
          refine lv_sipush (v := 16383) hx hb d_T_sinkBelow_87 (by decide) ?_
          refine lv_iand hx hb d_T_sinkBelow_90 ?_
          refine lv_istore (lv' := [(9, .int y4), (0, .ref x0), (1, .int x1), (2, .int x2), (3, .ref x3), (4, .ref x4), (5, .int x5), (6, .int x6), (7, .int x7), (8, .int x8)]) hx hb d_T_sinkBelow_91 hl (by decide) (by subst ey4; rfl) (fun ls hl => ?_)
          refine lv_aload_n hx hb d_T_sinkBelow_93 rfl (lv_at hl 4 rfl) ?_
          refine lv_iload hx hb d_T_sinkBelow_94 (lv_at hl 9 rfl) ?_
          refine xr_iald hx hb hw h5 d_T_sinkBelow_96 ?_
          refine lv_sipush (v := 16383) hx hb d_T_sinkBelow_97 (by decide) ?_
          refine lv_iand hx hb d_T_sinkBelow_100 ?_
          refine lv_istore (lv' := [(10, .int y6), (9, .int y4), (0, .ref x0), (1, .int x1), (2, .int x2), (3, .ref x3), (4, .ref x4), (5, .int x5), (6, .int x6), (7, .int x7), (8, .int x8)]) hx hb d_T_sinkBelow_101 hl (by decide) (by subst ey6; rfl) (fun ls hl => ?_)
          refine lv_aload_n hx hb d_T_sinkBelow_103 rfl (lv_at hl 5 rfl) ?_
          refine lv_iload hx hb d_T_sinkBelow_104 (lv_at hl 1 rfl) ?_
          refine xr_iald hx hb hw h7 d_T_sinkBelow_106 ?_
          refine lv_istore (lv' := [(11, .int z_74), (10, .int y6), (9, .int y4), (0, .ref x0), (1, .int x1), (2, .int x2), (3, .ref x3), (4, .ref x4), (5, .int x5), (6, .int x6), (7, .int x7), (8, .int x8)]) hx hb d_T_sinkBelow_107 hl (by decide) rfl (fun ls hl => ?_)
          refine lv_aload_n hx hb d_T_sinkBelow_109 rfl (lv_at hl 6 rfl) ?_
          refine lv_iload hx hb d_T_sinkBelow_110 (lv_at hl 1 rfl) ?_
          refine xr_iald hx hb hw h8 d_T_sinkBelow_112 ?_
          refine lv_istore (lv' := [(12, .int z_75), (11, .int z_74), (10, .int y6), (9, .int y4), (0, .ref x0), (1, .int x1), (2, .int x2), (3, .ref x3), (4, .ref x4), (5, .int x5), (6, .int x6), (7, .int x7), (8, .int x8)]) hx hb d_T_sinkBelow_113 hl (by decide) rfl (fun ls hl => ?_)
          refine lv_iload hx hb d_T_sinkBelow_115 (lv_at hl 1 rfl) ?_
          refine lv_bipush (v := 28) hx hb d_T_sinkBelow_117 (by decide) ?_
          refine lv_iushr hx hb d_T_sinkBelow_119 rfl ?_
          refine lv_iload_n hx hb d_T_sinkBelow_120 rfl (lv_at hl 6 rfl) ?_
          refine lv_icmp_eq (tgt := 156) hx hb d_T_sinkBelow_121 (by decide) (fun c9 => absurd c9 hc9) (fun _ => ?_)
          refine lv_aload_n hx hb d_T_sinkBelow_124 rfl (lv_at hl 4 rfl) ?_
          refine lv_iload_n hx hb d_T_sinkBelow_125 rfl (lv_at hl 5 rfl) ?_
          refine lv_iload hx hb d_T_sinkBelow_126 (lv_at hl 3 rfl) ?_
          refine lv_iload hx hb d_T_sinkBelow_128 (lv_at hl 0 rfl) ?_
          refine lv_bipush (v := 14) hx hb d_T_sinkBelow_130 (by decide) ?_
          refine lv_iushr hx hb d_T_sinkBelow_132 rfl ?_
          refine lv_sipush (v := 16383) hx hb d_T_sinkBelow_133 (by decide) ?_
          refine lv_iand hx hb d_T_sinkBelow_136 ?_
          refine xr_cV (As := [.int x1, .int y4, .int (((z_75.toUInt32 >>> ((14 : Int32).toUInt32 &&& Int32.toUInt32 31)).toInt32) &&& (16383 : Int32))]) (rest := []) ⟨hx, hb, hml, hown, hts⟩ hw hM19 hle_u_96 (fun _ _ => ⟨callB_of 3 hts (xgood w_476) rfl rfl rfl (hts _ (xm w_7)) (hts _ (xm w_473)) ⟨by decide, by decide, by decide +kernel⟩ ⟨Nat.le_of_ble_eq_true rfl, Nat.le_of_ble_eq_true rfl⟩, (hts _ (xm w_475)), (hts _ (xm wp_25))⟩) (qc := (R_T, F_T, 10)) rfl rfl h20 rfl hl.1 rfl (Nat.le_of_ble_eq_true rfl) d_T_sinkBelow_137 (fun H locs hw => ?_)
          refine W.eq (g2 := F0 m 140 ls []) rfl ?_
          refine lv_aload_n hx hb d_T_sinkBelow_140 rfl (lv_at hl 4 rfl) ?_
          refine lv_iload_n hx hb d_T_sinkBelow_141 rfl (lv_at hl 5 rfl) ?_
          refine lv_iload hx hb d_T_sinkBelow_142 (lv_at hl 3 rfl) ?_
          refine lv_iload hx hb d_T_sinkBelow_144 (lv_at hl 0 rfl) ?_
          refine lv_sipush (v := 16383) hx hb d_T_sinkBelow_146 (by decide) ?_
          refine lv_iand hx hb d_T_sinkBelow_149 ?_
          refine xr_cV (As := [.int x1, .int y4, .int (z_75 &&& (16383 : Int32))]) (rest := []) ⟨hx, hb, hml, hown, hts⟩ hw hM21 hle_u_97 (fun _ _ => ⟨callB_of 3 hts (xgood w_476) rfl rfl rfl (hts _ (xm w_7)) (hts _ (xm w_473)) ⟨by decide, by decide, by decide +kernel⟩ ⟨Nat.le_of_ble_eq_true rfl, Nat.le_of_ble_eq_true rfl⟩, (hts _ (xm w_475)), (hts _ (xm wp_25))⟩) (qc := (R_T, F_T, 10)) rfl rfl h22 rfl hl.1 rfl (Nat.le_of_ble_eq_true rfl) d_T_sinkBelow_150 (fun H locs hw => ?_)
          refine W.eq (g2 := F0 m 153 ls []) rfl ?_
          refine lv_goto (tgt := 237) hx hb d_T_sinkBelow_153 (by decide) ?_
          exact w9 p e s m args below meth c A H locs ls F hw (lv_sub hl [4, 5, 6, 7, 8, 9, 10, 11, 12, 3, 2, 1, 0] rfl)
set_option maxRecDepth 100000 in
set_option maxHeartbeats 4000000 in
theorem t_T_sinkBelow_J350 (l : Launch) (Z : XZ) (u0 : PS) {K : Int32 → PS → Prop} (x0 : Nat) (x5 : Int32) (x6 : Int32) (x7 : Int32) (u : PS) (k : (p_T_sinkBelow_J350 K x0 x5 x6 x7 u)) : XN l Z i_T_sinkBelow u0 (kI K) u 350 [(0, .ref x0), (5, .int x5), (6, .int x6), (7, .int x7)] [] := by
  unfold p_T_sinkBelow_J350 at k
  obtain ⟨z_98, h1, k⟩ := k
  obtain ⟨z_99, h2, k⟩ := k
  obtain ⟨z_100, h3, k⟩ := k
  obtain ⟨u_101, h4, k⟩ := k
  obtain ⟨z_102, h5, k⟩ := k
  obtain ⟨z_103, h6, k⟩ := k
  have hle_u_101 : x_le u_101 u_101 := x_le.rf u_101
  have hle_u : x_le u u_101 := (h4.le).tr hle_u_101
  refine ⟨some (.int ((z_103 - x5) - x6)), u_101, ⟨((z_103 - x5) - x6), rfl, k⟩, hle_u, ?_⟩
  intro p e s m args below meth c A H locs ls F hw hl
  obtain ⟨⟨hx, hb, hml, hown, hts⟩, hr, hlocks, hmn⟩ := id F
  refine lv_aload_n hx hb d_T_sinkBelow_350 rfl (lv_at hl 0 rfl) ?_
  refine lv_dup hx hb d_T_sinkBelow_351 rfl ?_
  refine xr_get hx hb hts (xmu uws_T) hown hw h1 rfl (by decide) (hts _ (xm w_162)) (fun _ h9 => h9) d_T_sinkBelow_352 ?_
  refine lv_aload_n hx hb d_T_sinkBelow_355 rfl (lv_at hl 0 rfl) ?_
  refine xr_get hx hb hts (xmu uws_T) hown hw h2 rfl (by decide) (hts _ (xm w_160)) (fun _ h9 => h9) d_T_sinkBelow_356 ?_
  refine xr_get hx hb hts (xmu uws_N) hown hw h3 rfl (by decide) (hts _ (xm w_86)) (fun _ h9 => h9) d_T_sinkBelow_359 ?_
  refine lv_iload hx hb d_T_sinkBelow_362 (lv_at hl 1 rfl) ?_
  refine lv_isub hx hb d_T_sinkBelow_364 ?_
  refine lv_iload hx hb d_T_sinkBelow_365 (lv_at hl 3 rfl) ?_
  refine lv_isub hx hb d_T_sinkBelow_367 ?_
  refine lv_iadd hx hb d_T_sinkBelow_368 ?_
  refine xr_put (ty := .int) hx hb hts (xmu uws_T) tyc_T tyc_T_ok nmc_T hown hw h4 rfl (by decide) (hts _ (xm w_162)) (fun _ h9 => h9) rfl (by decide +kernel) rfl rfl d_T_sinkBelow_369 (fun H locs hw => ?_)
  refine lv_aload_n hx hb d_T_sinkBelow_372 rfl (lv_at hl 0 rfl) ?_
  refine xr_get hx hb hts (xmu uws_T) hown hw h5 rfl (by decide) (hts _ (xm w_160)) (fun _ h9 => h9) d_T_sinkBelow_373 ?_
  refine xr_get hx hb hts (xmu uws_N) hown hw h6 rfl (by decide) (hts _ (xm w_86)) (fun _ h9 => h9) d_T_sinkBelow_376 ?_
  refine lv_iload hx hb d_T_sinkBelow_379 (lv_at hl 1 rfl) ?_
  refine lv_isub hx hb d_T_sinkBelow_381 ?_
  refine lv_iload hx hb d_T_sinkBelow_382 (lv_at hl 2 rfl) ?_
  refine lv_isub hx hb d_T_sinkBelow_384 ?_
  exact xr_iret F rfl hw d_T_sinkBelow_385
set_option maxRecDepth 100000 in
set_option maxHeartbeats 4000000 in
theorem c_T_sinkBelow (l : Launch) (Z : XZ) (x0 : Nat) (x1 : Int32) (x2 : Int32) (u : PS) (K : Int32 → PS → Prop) (k : p_T_sinkBelow x0 x1 x2 u K) : ∃ (rv : Option Value) (u1 : PS), (kI K) rv u1 ∧ XMet l Z i_T_sinkBelow [.ref x0, .int x1, .int x2] u rv u1 := by
  refine x_met (by decide) rfl (Nat.le_of_ble_eq_true rfl) ?_
  show XN l Z i_T_sinkBelow u (kI K) u 0 [(0, .ref x0), (1, .int x1), (2, .int x2)] []
  unfold p_T_sinkBelow at k
  obtain ⟨z_57, h1, k⟩ := k
  obtain ⟨z_58, h2, k⟩ := k
  obtain ⟨z_59, h3, k⟩ := k
  obtain ⟨z_60, h4, k⟩ := k
  obtain ⟨h6, k⟩ := k
  obtain ⟨_, u_61, ⟨rfl, k⟩, hM5⟩ := c_N_makeRoomFor l Z z_57 (z_59 + ((2 : Int32) * z_60)) u _ k
  obtain ⟨h8, k⟩ := k
  obtain ⟨_, u_62, ⟨rfl, k⟩, hM7⟩ := c_T_fitNodes l Z x0 u_61 _ k
  obtain ⟨z_63, h9, k⟩ := k
  obtain ⟨z_64, h10, k⟩ := k
  obtain ⟨z_65, h11, k⟩ := k
  obtain ⟨z_66, h12, k⟩ := k
  obtain ⟨z_67, h13, k⟩ := k
  obtain ⟨z_68, h14, k⟩ := k
  obtain ⟨z_69, h15, k⟩ := k
  obtain ⟨z_70, h16, k⟩ := k
  obtain ⟨z_71, h17, k⟩ := k
  obtain ⟨n18, k⟩ := k
  have hx22 : ∀ (y6_19 : Int32) (y7_20 : Int32) (v21 : PS), (p_T_sinkBelow_J350 K x0 z_67 y6_19 y7_20 v21) → XN l Z i_T_sinkBelow u (kI K) v21 350 [(0, .ref x0), (5, .int z_67), (6, .int y6_19), (7, .int y7_20)] [] := by
    intro y6_19 y7_20 v21 k
    obtain ⟨rv, v9, hK, hle_v21, w9⟩ := t_T_sinkBelow_J350 l Z u x0 z_67 y6_19 y7_20 v21 k
    refine ⟨rv, v9, hK, hle_v21, ?_⟩
    intro p e s m args below meth c A H locs ls F hw hl
    obtain ⟨⟨hx, hb, hml, hown, hts⟩, hr, hlocks, hmn⟩ := id F
    exact w9 p e s m args below meth c A H locs ls F hw (lv_sub hl [0, 1, 2, 3] rfl)
  obtain ⟨rv, v9, hK, hle_u_62, w9⟩ := t_T_sinkBelow_L67 l Z u x0 x1 x2 z_64 z_65 z_67 hx22 n18 (0 : Int32) (0 : Int32) z_71 u_62 k
  have hle_u_61 : x_le u_61 v9 := (hM7.1).tr hle_u_62
  have hle_u : x_le u v9 := (hM5.1).tr hle_u_61
  refine ⟨rv, v9, hK, hle_u, ?_⟩
  intro p e s m args below meth c A H locs ls F hw hl
  obtain ⟨⟨hx, hb, hml, hown, hts⟩, hr, hlocks, hmn⟩ := id F
  refine lv_aload_n hx hb d_T_sinkBelow_0 rfl (lv_at hl 0 rfl) ?_
  refine xr_get hx hb hts (xmu uws_T) hown hw h1 rfl (by decide) (hts _ (xm w_160)) (fun _ h9 => h9) d_T_sinkBelow_1 ?_
  refine lv_aload_n hx hb d_T_sinkBelow_4 rfl (lv_at hl 0 rfl) ?_
  refine xr_get hx hb hts (xmu uws_T) hown hw h2 rfl (by decide) (hts _ (xm w_160)) (fun _ h9 => h9) d_T_sinkBelow_5 ?_
  refine xr_get hx hb hts (xmu uws_N) hown hw h3 rfl (by decide) (hts _ (xm w_86)) (fun _ h9 => h9) d_T_sinkBelow_8 ?_
  refine lv_iconst (v := 2) hx hb d_T_sinkBelow_11 (by decide) ?_
  refine lv_aload_n hx hb d_T_sinkBelow_12 rfl (lv_at hl 0 rfl) ?_
  refine xr_get hx hb hts (xmu uws_T) hown hw h4 rfl (by decide) (hts _ (xm w_162)) (fun _ h9 => h9) d_T_sinkBelow_13 ?_
  refine lv_imul hx hb d_T_sinkBelow_16 ?_
  refine lv_iadd hx hb d_T_sinkBelow_17 ?_
  refine xr_cV (As := [.int (z_59 + ((2 : Int32) * z_60))]) (rest := []) ⟨hx, hb, hml, hown, hts⟩ hw hM5 hle_u_61 (fun _ _ => ⟨callB_of 1 hts (xgood w_301) rfl rfl rfl (hts _ (xm w_4)) (hts _ (xm w_444)) ⟨by decide, by decide, by decide +kernel⟩ ⟨Nat.le_of_ble_eq_true rfl, Nat.le_of_ble_eq_true rfl⟩, (hts _ (xm w_299)), (hts _ (xm w_300))⟩) (qc := (R_N, F_N, 13)) rfl rfl h6 rfl hl.1 rfl (Nat.le_of_ble_eq_true rfl) d_T_sinkBelow_18 (fun H locs hw => ?_)
  refine W.eq (g2 := F0 m 21 ls []) rfl ?_
  refine lv_aload_n hx hb d_T_sinkBelow_21 rfl (lv_at hl 0 rfl) ?_
  refine xr_cV (As := []) (rest := []) ⟨hx, hb, hml, hown, hts⟩ hw hM7 hle_u_62 (fun _ _ => ⟨callB_of 0 hts (xgood w_429) rfl rfl rfl (hts _ (xm w_7)) (hts _ (xm w_426)) ⟨by decide, by decide, by decide +kernel⟩ ⟨Nat.le_of_ble_eq_true rfl, Nat.le_of_ble_eq_true rfl⟩, (hts _ (xm w_428)), (hts _ (xm wp_21))⟩) (qc := (R_T, F_T, 10)) rfl rfl h8 rfl hl.1 rfl (Nat.le_of_ble_eq_true rfl) d_T_sinkBelow_22 (fun H locs hw => ?_)
  refine W.eq (g2 := F0 m 25 ls []) rfl ?_
  refine lv_aload_n hx hb d_T_sinkBelow_25 rfl (lv_at hl 0 rfl) ?_
  refine xr_get hx hb hts (xmu uws_T) hown hw h9 rfl (by decide) (hts _ (xm w_160)) (fun _ h9 => h9) d_T_sinkBelow_26 ?_
  refine xr_get hx hb hts (xmu uws_N) hown hw h10 rfl (by decide) (hts _ (xm w_73)) (fun _ h9 => h9) d_T_sinkBelow_29 ?_
  refine lv_astore_n (lv' := [(3, .ref z_64), (0, .ref x0), (1, .int x1), (2, .int x2)]) hx hb d_T_sinkBelow_32 rfl hl (by decide) rfl (fun ls hl => ?_)
  refine lv_aload_n hx hb d_T_sinkBelow_33 rfl (lv_at hl 1 rfl) ?_
  refine xr_get hx hb hts (xmu uws_T) hown hw h11 rfl (by decide) (hts _ (xm w_163)) (fun _ h9 => h9) d_T_sinkBelow_34 ?_
  refine lv_astore (lv' := [(4, .ref z_65), (3, .ref z_64), (0, .ref x0), (1, .int x1), (2, .int x2)]) hx hb d_T_sinkBelow_37 hl (by decide) rfl (fun ls hl => ?_)
  refine lv_aload_n hx hb d_T_sinkBelow_39 rfl (lv_at hl 2 rfl) ?_
  refine xr_get hx hb hts (xmu uws_T) hown hw h12 rfl (by decide) (hts _ (xm w_160)) (fun _ h9 => h9) d_T_sinkBelow_40 ?_
  refine xr_get hx hb hts (xmu uws_N) hown hw h13 rfl (by decide) (hts _ (xm w_86)) (fun _ h9 => h9) d_T_sinkBelow_43 ?_
  refine lv_istore (lv' := [(5, .int z_67), (4, .ref z_65), (3, .ref z_64), (0, .ref x0), (1, .int x1), (2, .int x2)]) hx hb d_T_sinkBelow_46 hl (by decide) rfl (fun ls hl => ?_)
  refine lv_iconst (v := 0) hx hb d_T_sinkBelow_48 (by decide) ?_
  refine lv_istore (lv' := [(6, .int 0), (5, .int z_67), (4, .ref z_65), (3, .ref z_64), (0, .ref x0), (1, .int x1), (2, .int x2)]) hx hb d_T_sinkBelow_49 hl (by decide) rfl (fun ls hl => ?_)
  refine lv_iconst (v := 0) hx hb d_T_sinkBelow_51 (by decide) ?_
  refine lv_istore (lv' := [(7, .int 0), (6, .int 0), (5, .int z_67), (4, .ref z_65), (3, .ref z_64), (0, .ref x0), (1, .int x1), (2, .int x2)]) hx hb d_T_sinkBelow_52 hl (by decide) rfl (fun ls hl => ?_)
  refine lv_aload_n hx hb d_T_sinkBelow_54 rfl (lv_at hl 5 rfl) ?_
  refine xr_get hx hb hts (xmu uws_T) hown hw h14 rfl (by decide) (hts _ (xm w_168)) (fun _ h9 => h9) d_T_sinkBelow_55 ?_
  refine lv_aload_n hx hb d_T_sinkBelow_58 rfl (lv_at hl 5 rfl) ?_
  refine xr_get hx hb hts (xmu uws_T) hown hw h15 rfl (by decide) (hts _ (xm w_169)) (fun _ h9 => h9) d_T_sinkBelow_59 ?_
  refine lv_iload_n hx hb d_T_sinkBelow_62 rfl (lv_at hl 7 rfl) ?_
  refine xr_iald hx hb hw h16 d_T_sinkBelow_63 ?_
  refine xr_iald hx hb hw h17 d_T_sinkBelow_64 ?_
  refine lv_istore (lv' := [(8, .int z_71), (7, .int 0), (6, .int 0), (5, .int z_67), (4, .ref z_65), (3, .ref z_64), (0, .ref x0), (1, .int x1), (2, .int x2)]) hx hb d_T_sinkBelow_65 hl (by decide) rfl (fun ls hl => ?_)
  exact w9 p e s m args below meth c A H locs ls F hw (lv_sub hl [6, 7, 8, 5, 4, 3, 2, 1, 0] rfl)
