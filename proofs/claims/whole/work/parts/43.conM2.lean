set_option maxRecDepth 100000 in
set_option maxHeartbeats 4000000 in
theorem t_M_quantify_L62 (l : Launch) (Z : XZ) (u0 : PS) {Kv : Option Value → PS → Prop} {E90 : PS → Prop} (x0 : Nat) (x1 : Int32) (x2 : Int32) (x3 : Int32) (x4 : Int32) (hE90 : ∀ (v : PS), E90 v → XN l Z i_M_quantify u0 Kv v 90 [(0, .ref x0), (1, .int x1), (3, .int x3), (4, .int x4)] []) : ∀ (n : Nat) (x6 : Int32) (u : PS), p_M_quantify_L62 x0 x1 x2 x3 x4 E90 n x6 u → XN l Z i_M_quantify u0 Kv u 62 [(0, .ref x0), (1, .int x1), (2, .int x2), (3, .int x3), (4, .int x4), (6, .int x6)] [] := by
  intro n
  induction n with
  | zero => intro x6 u k; exact False.elim k
  | succ n ih =>
    intro x6 u k
    rw [p_M_quantify_L62] at k
    by_cases hc1 : 1024 ≤ x6
    · have k := k.1 hc1
      obtain ⟨rv, v9, hK, hle_u, w9⟩ := hE90 u k
      refine ⟨rv, v9, hK, hle_u, ?_⟩
      intro p e s m args below meth c A H locs ls F hw hl
      obtain ⟨⟨hx, hb, hml, hown, hts⟩, hr, hlocks, hmn⟩ := id F
      refine lv_iload hx hb d_M_quantify_62 (lv_at hl 5 rfl) ?_
      refine lv_sipush (v := 1024) hx hb d_M_quantify_64 (by decide) ?_
      refine lv_icmp_ge (tgt := 90) hx hb d_M_quantify_67 (by decide) (fun _ => ?_) (fun c9 => absurd hc1 c9)
      exact w9 p e s m args below meth c A H locs ls F hw (lv_sub hl [0, 1, 3, 4] rfl)
    · have k := k.2 hc1
      obtain ⟨z_22, h2, k⟩ := k
      obtain ⟨h4, k⟩ := k
      obtain ⟨_, u_23, ⟨r_24, rfl, k⟩, hM3⟩ := c_M_is l Z x0 x2 x6 u _ k
      obtain ⟨u_25, h5, k⟩ := k
      obtain ⟨y6, ey6⟩ : ∃ y9 : Int32, y9 = x6 + 1 := ⟨_, rfl⟩
      have k := k y6 ey6
      obtain ⟨rv, v9, hK, hle_u_25, w9⟩ := ih y6 u_25 k
      have hle_u_23 : x_le u_23 v9 := (h5.le).tr hle_u_25
      have hle_u : x_le u v9 := (hM3.1).tr hle_u_23
      refine ⟨rv, v9, hK, hle_u, ?_⟩
      intro p e s m args below meth c A H locs ls F hw hl
      obtain ⟨⟨hx, hb, hml, hown, hts⟩, hr, hlocks, hmn⟩ := id F
      refine lv_iload hx hb d_M_quantify_62 (lv_at hl 5 rfl) ?_
      refine lv_sipush (v := 1024) hx hb d_M_quantify_64 (by decide) ?_
      refine lv_icmp_ge (tgt := 90) hx hb d_M_quantify_67 (by decide) (fun c9 => absurd c9 hc1) (fun _ => ?_)
      refine lv_aload_n hx hb d_M_quantify_70 rfl (lv_at hl 0 rfl) ?_
      refine xr_get hx hb hts (xmu uws_M) hown hw h2 rfl (by decide) (hts _ (xm w_870)) (fun _ h9 => h9) d_M_quantify_71 ?_
      refine lv_iload hx hb d_M_quantify_74 (lv_at hl 5 rfl) ?_
      refine lv_aload_n hx hb d_M_quantify_76 rfl (lv_at hl 0 rfl) ?_
      refine lv_iload_n hx hb d_M_quantify_77 rfl (lv_at hl 2 rfl) ?_
      refine lv_iload hx hb d_M_quantify_78 (lv_at hl 5 rfl) ?_
      refine xr_cV (As := [.int x2, .int x6]) (rest := [.int x6, .ref z_22]) ⟨hx, hb, hml, hown, hts⟩ hw hM3 hle_u_23 (fun _ _ => ⟨callB_of 2 hts (xgood w_944) rfl rfl rfl (hts _ (xm w_8)) (hts _ (xm w_941)) ⟨by decide, by decide, by decide +kernel⟩ ⟨Nat.le_of_ble_eq_true rfl, Nat.le_of_ble_eq_true rfl⟩, (hts _ (xm w_943)), (hts _ (xm wp_39))⟩) (qc := (R_M, F_M, 14)) rfl rfl h4 rfl hl.1 rfl (Nat.le_of_ble_eq_true rfl) d_M_quantify_80 (fun H locs hw => ?_)
      refine W.eq (g2 := F0 m 83 ls [.int r_24, .int x6, .ref z_22]) rfl ?_
      refine xr_zast hx hb hw h5 d_M_quantify_83 (fun H locs hw => ?_)
      refine lv_iinc (v := y6) (lv' := [(6, .int y6), (0, .ref x0), (1, .int x1), (2, .int x2), (3, .int x3), (4, .int x4)]) hx hb d_M_quantify_84 hl (k := 5) rfl (by subst ey6; rfl) (by decide) rfl (fun ls hl => ?_)
      refine lv_goto (tgt := 62) hx hb d_M_quantify_87 (by decide) ?_
      exact w9 p e s m args below meth c A H locs ls F hw (lv_sub hl [1, 2, 3, 4, 5, 0] rfl)
set_option maxRecDepth 100000 in
set_option maxHeartbeats 4000000 in
theorem t_M_quantify_J90 (l : Launch) (Z : XZ) (u0 : PS) {K : PS → Prop} (x0 : Nat) (x1 : Int32) (x3 : Int32) (x4 : Int32) (u : PS) (k : (p_M_quantify_J90 K x0 x1 x3 x4 u)) : XN l Z i_M_quantify u0 (kV K) u 90 [(0, .ref x0), (1, .int x1), (3, .int x3), (4, .int x4)] [] := by
  unfold p_M_quantify_J90 at k
  obtain ⟨h2, k⟩ := k
  obtain ⟨_, u_26, ⟨rfl, k⟩, hM1⟩ := c_M_quantifyMade l Z x0 x3 x4 u _ k
  obtain ⟨h4, k⟩ := k
  obtain ⟨_, u_27, ⟨rfl, k⟩, hM3⟩ := c_M_take l Z x0 x1 u_26 _ k
  have hle_u_27 : x_le u_27 u_27 := x_le.rf u_27
  have hle_u_26 : x_le u_26 u_27 := (hM3.1).tr hle_u_27
  have hle_u : x_le u u_27 := (hM1.1).tr hle_u_26
  refine ⟨none, u_27, ⟨rfl, k⟩, hle_u, ?_⟩
  intro p e s m args below meth c A H locs ls F hw hl
  obtain ⟨⟨hx, hb, hml, hown, hts⟩, hr, hlocks, hmn⟩ := id F
  refine lv_aload_n hx hb d_M_quantify_90 rfl (lv_at hl 0 rfl) ?_
  refine lv_iload_n hx hb d_M_quantify_91 rfl (lv_at hl 2 rfl) ?_
  refine lv_iload hx hb d_M_quantify_92 (lv_at hl 3 rfl) ?_
  refine xr_cV (As := [.int x3, .int x4]) (rest := []) ⟨hx, hb, hml, hown, hts⟩ hw hM1 hle_u_26 (fun _ _ => ⟨callB_of 2 hts (xgood w_971) rfl rfl rfl (hts _ (xm w_8)) (hts _ (xm w_968)) ⟨by decide, by decide, by decide +kernel⟩ ⟨Nat.le_of_ble_eq_true rfl, Nat.le_of_ble_eq_true rfl⟩, (hts _ (xm w_970)), (hts _ (xm wp_41))⟩) (qc := (R_M, F_M, 14)) rfl rfl h2 rfl hl.1 rfl (Nat.le_of_ble_eq_true rfl) d_M_quantify_94 (fun H locs hw => ?_)
  refine W.eq (g2 := F0 m 97 ls []) rfl ?_
  refine lv_aload_n hx hb d_M_quantify_97 rfl (lv_at hl 0 rfl) ?_
  refine lv_iload_n hx hb d_M_quantify_98 rfl (lv_at hl 1 rfl) ?_
  refine xr_cV (As := [.int x1]) (rest := []) ⟨hx, hb, hml, hown, hts⟩ hw hM3 hle_u_27 (fun _ _ => ⟨callB_of 1 hts (xgood w_951) rfl rfl rfl (hts _ (xm w_8)) (hts _ (xm w_948)) ⟨by decide, by decide, by decide +kernel⟩ ⟨Nat.le_of_ble_eq_true rfl, Nat.le_of_ble_eq_true rfl⟩, (hts _ (xm w_950)), (hts _ (xm wp_40))⟩) (qc := (R_M, F_M, 14)) rfl rfl h4 rfl hl.1 rfl (Nat.le_of_ble_eq_true rfl) d_M_quantify_99 (fun H locs hw => ?_)
  refine W.eq (g2 := F0 m 102 ls []) rfl ?_
  exact xr_vret F rfl hw d_M_quantify_102
set_option maxRecDepth 100000 in
set_option maxHeartbeats 4000000 in
theorem t_M_quantify_J53 (l : Launch) (Z : XZ) (u0 : PS) {K : PS → Prop} (x0 : Nat) (x1 : Int32) (x2 : Int32) (x3 : Int32) (x4 : Int32) (s0 : Nat) (s1 : Int32) (s2 : Int32) (u : PS) (k : (p_M_quantify_J53 K x0 x1 x2 x3 x4 s0 s1 s2 u)) : XN l Z i_M_quantify u0 (kV K) u 53 [(0, .ref x0), (1, .int x1), (2, .int x2), (3, .int x3), (4, .int x4)] [.int s2, .int s1, .ref s0] := by
  unfold p_M_quantify_J53 at k
  obtain ⟨h2, k⟩ := k
  obtain ⟨_, u_20, ⟨r_21, rfl, k⟩, hM1⟩ := c_M_refuse l Z s0 s1 s2 u _ k
  by_cases hc3 : r_21 = 0
  · have k := k.2 hc3
    obtain ⟨n4, k⟩ := k
    have hx6 : ∀ (v5 : PS), (p_M_quantify_J90 K x0 x1 x3 x4 v5) → XN l Z i_M_quantify u0 (kV K) v5 90 [(0, .ref x0), (1, .int x1), (3, .int x3), (4, .int x4)] [] := by
      intro v5 k
      obtain ⟨rv, v9, hK, hle_v5, w9⟩ := t_M_quantify_J90 l Z u0 x0 x1 x3 x4 v5 k
      refine ⟨rv, v9, hK, hle_v5, ?_⟩
      intro p e s m args below meth c A H locs ls F hw hl
      obtain ⟨⟨hx, hb, hml, hown, hts⟩, hr, hlocks, hmn⟩ := id F
      exact w9 p e s m args below meth c A H locs ls F hw (lv_sub hl [0, 1, 2, 3] rfl)
    obtain ⟨rv, v9, hK, hle_u_20, w9⟩ := t_M_quantify_L62 l Z u0 x0 x1 x2 x3 x4 hx6 n4 (0 : Int32) u_20 k
    have hle_u : x_le u v9 := (hM1.1).tr hle_u_20
    refine ⟨rv, v9, hK, hle_u, ?_⟩
    intro p e s m args below meth c A H locs ls F hw hl
    obtain ⟨⟨hx, hb, hml, hown, hts⟩, hr, hlocks, hmn⟩ := id F
    refine xr_cV (As := [.int s1, .int s2]) (rest := []) ⟨hx, hb, hml, hown, hts⟩ hw hM1 hle_u_20 (fun _ _ => ⟨callB_of 2 hts (xgood w_929) rfl rfl rfl (hts _ (xm w_8)) (hts _ (xm w_926)) ⟨by decide, by decide, by decide +kernel⟩ ⟨Nat.le_of_ble_eq_true rfl, Nat.le_of_ble_eq_true rfl⟩, (hts _ (xm w_928)), (hts _ (xm wp_38))⟩) (qc := (R_M, F_M, 14)) rfl rfl h2 rfl hl.1 rfl (Nat.le_of_ble_eq_true rfl) d_M_quantify_53 (fun H locs hw => ?_)
    refine W.eq (g2 := F0 m 56 ls [.int r_21]) rfl ?_
    refine lv_if_ne (tgt := 102) hx hb d_M_quantify_56 (by decide) (fun c9 => absurd hc3 c9) (fun _ => ?_)
    refine lv_iconst (v := 0) hx hb d_M_quantify_59 (by decide) ?_
    refine lv_istore (lv' := [(6, .int 0), (0, .ref x0), (1, .int x1), (2, .int x2), (3, .int x3), (4, .int x4)]) hx hb d_M_quantify_60 hl (by decide) rfl (fun ls hl => ?_)
    exact w9 p e s m args below meth c A H locs ls F hw (lv_sub hl [1, 2, 3, 4, 5, 0] rfl)
  · have k := k.1 hc3
    have hle_u_20 : x_le u_20 u_20 := x_le.rf u_20
    have hle_u : x_le u u_20 := (hM1.1).tr hle_u_20
    refine ⟨none, u_20, ⟨rfl, k⟩, hle_u, ?_⟩
    intro p e s m args below meth c A H locs ls F hw hl
    obtain ⟨⟨hx, hb, hml, hown, hts⟩, hr, hlocks, hmn⟩ := id F
    refine xr_cV (As := [.int s1, .int s2]) (rest := []) ⟨hx, hb, hml, hown, hts⟩ hw hM1 hle_u_20 (fun _ _ => ⟨callB_of 2 hts (xgood w_929) rfl rfl rfl (hts _ (xm w_8)) (hts _ (xm w_926)) ⟨by decide, by decide, by decide +kernel⟩ ⟨Nat.le_of_ble_eq_true rfl, Nat.le_of_ble_eq_true rfl⟩, (hts _ (xm w_928)), (hts _ (xm wp_38))⟩) (qc := (R_M, F_M, 14)) rfl rfl h2 rfl hl.1 rfl (Nat.le_of_ble_eq_true rfl) d_M_quantify_53 (fun H locs hw => ?_)
    refine W.eq (g2 := F0 m 56 ls [.int r_21]) rfl ?_
    refine lv_if_ne (tgt := 102) hx hb d_M_quantify_56 (by decide) (fun _ => ?_) (fun c9 => absurd c9 hc3)
    exact xr_vret F rfl hw d_M_quantify_102
set_option maxRecDepth 100000 in
set_option maxHeartbeats 4000000 in
theorem t_M_quantify_J52 (l : Launch) (Z : XZ) (u0 : PS) {K : PS → Prop} (x0 : Nat) (x1 : Int32) (x2 : Int32) (x3 : Int32) (x4 : Int32) (s0 : Nat) (s1 : Int32) (u : PS) (k : (p_M_quantify_J52 K x0 x1 x2 x3 x4 s0 s1 u)) : XN l Z i_M_quantify u0 (kV K) u 52 [(0, .ref x0), (1, .int x1), (2, .int x2), (3, .int x3), (4, .int x4)] [.int s1, .ref s0] := by
  unfold p_M_quantify_J52 at k
  obtain ⟨rv, v9, hK, hle_u, w9⟩ := t_M_quantify_J53 l Z u0 x0 x1 x2 x3 x4 s0 s1 (0 : Int32) u k
  refine ⟨rv, v9, hK, hle_u, ?_⟩
  intro p e s m args below meth c A H locs ls F hw hl
  obtain ⟨⟨hx, hb, hml, hown, hts⟩, hr, hlocks, hmn⟩ := id F
  refine lv_iconst (v := 0) hx hb d_M_quantify_52 (by decide) ?_
  exact w9 p e s m args below meth c A H locs ls F hw (lv_sub hl [0, 1, 2, 3, 4] rfl)
set_option maxRecDepth 100000 in
set_option maxHeartbeats 4000000 in
theorem t_M_quantify_J32 (l : Launch) (Z : XZ) (u0 : PS) {K : PS → Prop} (x0 : Nat) (x1 : Int32) (x2 : Int32) (x3 : Int32) (x4 : Int32) (x5 : Int32) (s0 : Nat) (s1 : Int32) (u : PS) (k : (p_M_quantify_J32 K x0 x1 x2 x3 x4 x5 s0 s1 u)) : XN l Z i_M_quantify u0 (kV K) u 32 [(0, .ref x0), (1, .int x1), (2, .int x2), (3, .int x3), (4, .int x4), (5, .int x5)] [.int s1, .ref s0] := by
  unfold p_M_quantify_J32 at k
  by_cases hc1 : x5 = 0
  · have k := k.1 hc1
    obtain ⟨rv, v9, hK, hle_u, w9⟩ := t_M_quantify_J52 l Z u0 x0 x1 x2 x3 x4 s0 s1 u k
    refine ⟨rv, v9, hK, hle_u, ?_⟩
    intro p e s m args below meth c A H locs ls F hw hl
    obtain ⟨⟨hx, hb, hml, hown, hts⟩, hr, hlocks, hmn⟩ := id F
    refine lv_iload hx hb d_M_quantify_32 (lv_at hl 5 rfl) ?_
    refine lv_if_eq (tgt := 52) hx hb d_M_quantify_34 (by decide) (fun _ => ?_) (fun c9 => absurd hc1 c9)
    exact w9 p e s m args below meth c A H locs ls F hw (lv_sub hl [0, 1, 2, 3, 4] rfl)
  · have k := k.2 hc1
    obtain ⟨_, u_28, ⟨r_29, rfl, k⟩, hM2⟩ := c_M_in l Z x3 (0 : Int32) (1023 : Int32) u _ k
    by_cases hc3 : r_29 = 0
    · have k := k.2 hc3
      obtain ⟨rv, v9, hK, hle_u_28, w9⟩ := t_M_quantify_J53 l Z u0 x0 x1 x2 x3 x4 s0 s1 (1 : Int32) u_28 k
      have hle_u : x_le u v9 := (hM2.1).tr hle_u_28
      refine ⟨rv, v9, hK, hle_u, ?_⟩
      intro p e s m args below meth c A H locs ls F hw hl
      obtain ⟨⟨hx, hb, hml, hown, hts⟩, hr, hlocks, hmn⟩ := id F
      refine lv_iload hx hb d_M_quantify_32 (lv_at hl 5 rfl) ?_
      refine lv_if_eq (tgt := 52) hx hb d_M_quantify_34 (by decide) (fun c9 => absurd c9 hc1) (fun _ => ?_)
      refine lv_iload_n hx hb d_M_quantify_37 rfl (lv_at hl 3 rfl) ?_
      refine lv_iconst (v := 0) hx hb d_M_quantify_38 (by decide) ?_
      refine lv_sipush (v := 1023) hx hb d_M_quantify_39 (by decide) ?_
      refine xr_cS (As := [.int x3, .int 0, .int 1023]) (rest := [.int s1, .ref s0]) ⟨hx, hb, hml, hown, hts⟩ hw hM2 hle_u_28 (fun _ _ => ⟨callB_of 3 hts (xgood w_925) rfl rfl rfl (hts _ (xm w_8)) (hts _ (xm w_923)) ⟨by decide, by decide, by decide +kernel⟩ ⟨Nat.le_of_ble_eq_true rfl, Nat.le_of_ble_eq_true rfl⟩, (hts _ (xm w_924))⟩) rfl hl.1 rfl (Nat.le_of_ble_eq_true rfl) d_M_quantify_42 (fun H locs hw => ?_)
      refine W.eq (g2 := F0 m 45 ls [.int r_29, .int s1, .ref s0]) rfl ?_
      refine lv_if_ne (tgt := 52) hx hb d_M_quantify_45 (by decide) (fun c9 => absurd hc3 c9) (fun _ => ?_)
      refine lv_iconst (v := 1) hx hb d_M_quantify_48 (by decide) ?_
      refine lv_goto (tgt := 53) hx hb d_M_quantify_49 (by decide) ?_
      exact w9 p e s m args below meth c A H locs ls F hw (lv_sub hl [0, 1, 2, 3, 4] rfl)
    · have k := k.1 hc3
      obtain ⟨rv, v9, hK, hle_u_28, w9⟩ := t_M_quantify_J52 l Z u0 x0 x1 x2 x3 x4 s0 s1 u_28 k
      have hle_u : x_le u v9 := (hM2.1).tr hle_u_28
      refine ⟨rv, v9, hK, hle_u, ?_⟩
      intro p e s m args below meth c A H locs ls F hw hl
      obtain ⟨⟨hx, hb, hml, hown, hts⟩, hr, hlocks, hmn⟩ := id F
      refine lv_iload hx hb d_M_quantify_32 (lv_at hl 5 rfl) ?_
      refine lv_if_eq (tgt := 52) hx hb d_M_quantify_34 (by decide) (fun c9 => absurd c9 hc1) (fun _ => ?_)
      refine lv_iload_n hx hb d_M_quantify_37 rfl (lv_at hl 3 rfl) ?_
      refine lv_iconst (v := 0) hx hb d_M_quantify_38 (by decide) ?_
      refine lv_sipush (v := 1023) hx hb d_M_quantify_39 (by decide) ?_
      refine xr_cS (As := [.int x3, .int 0, .int 1023]) (rest := [.int s1, .ref s0]) ⟨hx, hb, hml, hown, hts⟩ hw hM2 hle_u_28 (fun _ _ => ⟨callB_of 3 hts (xgood w_925) rfl rfl rfl (hts _ (xm w_8)) (hts _ (xm w_923)) ⟨by decide, by decide, by decide +kernel⟩ ⟨Nat.le_of_ble_eq_true rfl, Nat.le_of_ble_eq_true rfl⟩, (hts _ (xm w_924))⟩) rfl hl.1 rfl (Nat.le_of_ble_eq_true rfl) d_M_quantify_42 (fun H locs hw => ?_)
      refine W.eq (g2 := F0 m 45 ls [.int r_29, .int s1, .ref s0]) rfl ?_
      refine lv_if_ne (tgt := 52) hx hb d_M_quantify_45 (by decide) (fun _ => ?_) (fun c9 => absurd c9 hc3)
      exact w9 p e s m args below meth c A H locs ls F hw (lv_sub hl [0, 1, 2, 3, 4] rfl)
set_option maxRecDepth 100000 in
set_option maxHeartbeats 4000000 in
theorem t_M_quantify_J19 (l : Launch) (Z : XZ) (u0 : PS) {K : PS → Prop} (x0 : Nat) (x1 : Int32) (x2 : Int32) (x3 : Int32) (x4 : Int32) (s0 : Int32) (u : PS) (k : (p_M_quantify_J19 K x0 x1 x2 x3 x4 s0 u)) : XN l Z i_M_quantify u0 (kV K) u 19 [(0, .ref x0), (1, .int x1), (2, .int x2), (3, .int x3), (4, .int x4)] [.int s0] := by
  unfold p_M_quantify_J19 at k
  by_cases hc1 : s0 = 0
  · have k := k.2 hc1
    obtain ⟨rv, v9, hK, hle_u, w9⟩ := t_M_quantify_J32 l Z u0 x0 x1 x2 x3 x4 s0 x0 (1 : Int32) u k
    refine ⟨rv, v9, hK, hle_u, ?_⟩
    intro p e s m args below meth c A H locs ls F hw hl
    obtain ⟨⟨hx, hb, hml, hown, hts⟩, hr, hlocks, hmn⟩ := id F
    refine lv_istore (lv' := [(5, .int s0), (0, .ref x0), (1, .int x1), (2, .int x2), (3, .int x3), (4, .int x4)]) hx hb d_M_quantify_19 hl (by decide) rfl (fun ls hl => ?_)
    refine lv_aload_n hx hb d_M_quantify_21 rfl (lv_at hl 1 rfl) ?_
    refine lv_iload hx hb d_M_quantify_22 (lv_at hl 0 rfl) ?_
    refine lv_if_ne (tgt := 31) hx hb d_M_quantify_24 (by decide) (fun c9 => absurd hc1 c9) (fun _ => ?_)
    refine lv_iconst (v := 1) hx hb d_M_quantify_27 (by decide) ?_
    refine lv_goto (tgt := 32) hx hb d_M_quantify_28 (by decide) ?_
    exact w9 p e s m args below meth c A H locs ls F hw (lv_sub hl [1, 2, 3, 4, 5, 0] rfl)
  · have k := k.1 hc1
    obtain ⟨rv, v9, hK, hle_u, w9⟩ := t_M_quantify_J32 l Z u0 x0 x1 x2 x3 x4 s0 x0 (0 : Int32) u k
    refine ⟨rv, v9, hK, hle_u, ?_⟩
    intro p e s m args below meth c A H locs ls F hw hl
    obtain ⟨⟨hx, hb, hml, hown, hts⟩, hr, hlocks, hmn⟩ := id F
    refine lv_istore (lv' := [(5, .int s0), (0, .ref x0), (1, .int x1), (2, .int x2), (3, .int x3), (4, .int x4)]) hx hb d_M_quantify_19 hl (by decide) rfl (fun ls hl => ?_)
    refine lv_aload_n hx hb d_M_quantify_21 rfl (lv_at hl 1 rfl) ?_
    refine lv_iload hx hb d_M_quantify_22 (lv_at hl 0 rfl) ?_
    refine lv_if_ne (tgt := 31) hx hb d_M_quantify_24 (by decide) (fun _ => ?_) (fun c9 => absurd c9 hc1)
    refine lv_iconst (v := 0) hx hb d_M_quantify_31 (by decide) ?_
    exact w9 p e s m args below meth c A H locs ls F hw (lv_sub hl [1, 2, 3, 4, 5, 0] rfl)
set_option maxRecDepth 100000 in
set_option maxHeartbeats 4000000 in
theorem t_M_quantify_J18 (l : Launch) (Z : XZ) (u0 : PS) {K : PS → Prop} (x0 : Nat) (x1 : Int32) (x2 : Int32) (x3 : Int32) (x4 : Int32) (u : PS) (k : (p_M_quantify_J18 K x0 x1 x2 x3 x4 u)) : XN l Z i_M_quantify u0 (kV K) u 18 [(0, .ref x0), (1, .int x1), (2, .int x2), (3, .int x3), (4, .int x4)] [] := by
  unfold p_M_quantify_J18 at k
  obtain ⟨rv, v9, hK, hle_u, w9⟩ := t_M_quantify_J19 l Z u0 x0 x1 x2 x3 x4 (0 : Int32) u k
  refine ⟨rv, v9, hK, hle_u, ?_⟩
  intro p e s m args below meth c A H locs ls F hw hl
  obtain ⟨⟨hx, hb, hml, hown, hts⟩, hr, hlocks, hmn⟩ := id F
  refine lv_iconst (v := 0) hx hb d_M_quantify_18 (by decide) ?_
  exact w9 p e s m args below meth c A H locs ls F hw (lv_sub hl [0, 1, 2, 3, 4] rfl)
set_option maxRecDepth 100000 in
set_option maxHeartbeats 4000000 in
theorem c_M_quantify (l : Launch) (Z : XZ) (x0 : Nat) (x1 : Int32) (x2 : Int32) (x3 : Int32) (x4 : Int32) (u : PS) (K : PS → Prop) (k : p_M_quantify x0 x1 x2 x3 x4 u K) : ∃ (rv : Option Value) (u1 : PS), (kV K) rv u1 ∧ XMet l Z i_M_quantify [.ref x0, .int x1, .int x2, .int x3, .int x4] u rv u1 := by
  refine x_met (by decide) rfl (Nat.le_of_ble_eq_true rfl) ?_
  show XN l Z i_M_quantify u (kV K) u 0 [(0, .ref x0), (1, .int x1), (2, .int x2), (3, .int x3), (4, .int x4)] []
  unfold p_M_quantify at k
  obtain ⟨_, u_18, ⟨r_19, rfl, k⟩, hM1⟩ := c_M_isPlace l Z x1 u _ k
  by_cases hc2 : r_19 = 0
  · have k := k.1 hc2
    obtain ⟨rv, v9, hK, hle_u_18, w9⟩ := t_M_quantify_J18 l Z u x0 x1 x2 x3 x4 u_18 k
    have hle_u : x_le u v9 := (hM1.1).tr hle_u_18
    refine ⟨rv, v9, hK, hle_u, ?_⟩
    intro p e s m args below meth c A H locs ls F hw hl
    obtain ⟨⟨hx, hb, hml, hown, hts⟩, hr, hlocks, hmn⟩ := id F
    refine lv_iload_n hx hb d_M_quantify_0 rfl (lv_at hl 1 rfl) ?_
    refine xr_cS (As := [.int x1]) (rest := []) ⟨hx, hb, hml, hown, hts⟩ hw hM1 hle_u_18 (fun _ _ => ⟨callB_of 1 hts (xgood w_922) rfl rfl rfl (hts _ (xm w_8)) (hts _ (xm w_920)) ⟨by decide, by decide, by decide +kernel⟩ ⟨Nat.le_of_ble_eq_true rfl, Nat.le_of_ble_eq_true rfl⟩, (hts _ (xm w_921))⟩) rfl hl.1 rfl (Nat.le_of_ble_eq_true rfl) d_M_quantify_1 (fun H locs hw => ?_)
    refine W.eq (g2 := F0 m 4 ls [.int r_19]) rfl ?_
    refine lv_if_eq (tgt := 18) hx hb d_M_quantify_4 (by decide) (fun _ => ?_) (fun c9 => absurd hc2 c9)
    exact w9 p e s m args below meth c A H locs ls F hw (lv_sub hl [0, 1, 2, 3, 4] rfl)
  · have k := k.2 hc2
    obtain ⟨_, u_30, ⟨r_31, rfl, k⟩, hM3⟩ := c_M_isPlace l Z x2 u_18 _ k
    by_cases hc4 : r_31 = 0
    · have k := k.1 hc4
      obtain ⟨rv, v9, hK, hle_u_30, w9⟩ := t_M_quantify_J18 l Z u x0 x1 x2 x3 x4 u_30 k
      have hle_u_18 : x_le u_18 v9 := (hM3.1).tr hle_u_30
      have hle_u : x_le u v9 := (hM1.1).tr hle_u_18
      refine ⟨rv, v9, hK, hle_u, ?_⟩
      intro p e s m args below meth c A H locs ls F hw hl
      obtain ⟨⟨hx, hb, hml, hown, hts⟩, hr, hlocks, hmn⟩ := id F
      refine lv_iload_n hx hb d_M_quantify_0 rfl (lv_at hl 1 rfl) ?_
      refine xr_cS (As := [.int x1]) (rest := []) ⟨hx, hb, hml, hown, hts⟩ hw hM1 hle_u_18 (fun _ _ => ⟨callB_of 1 hts (xgood w_922) rfl rfl rfl (hts _ (xm w_8)) (hts _ (xm w_920)) ⟨by decide, by decide, by decide +kernel⟩ ⟨Nat.le_of_ble_eq_true rfl, Nat.le_of_ble_eq_true rfl⟩, (hts _ (xm w_921))⟩) rfl hl.1 rfl (Nat.le_of_ble_eq_true rfl) d_M_quantify_1 (fun H locs hw => ?_)
      refine W.eq (g2 := F0 m 4 ls [.int r_19]) rfl ?_
      refine lv_if_eq (tgt := 18) hx hb d_M_quantify_4 (by decide) (fun c9 => absurd c9 hc2) (fun _ => ?_)
      refine lv_iload_n hx hb d_M_quantify_7 rfl (lv_at hl 2 rfl) ?_
      refine xr_cS (As := [.int x2]) (rest := []) ⟨hx, hb, hml, hown, hts⟩ hw hM3 hle_u_30 (fun _ _ => ⟨callB_of 1 hts (xgood w_922) rfl rfl rfl (hts _ (xm w_8)) (hts _ (xm w_920)) ⟨by decide, by decide, by decide +kernel⟩ ⟨Nat.le_of_ble_eq_true rfl, Nat.le_of_ble_eq_true rfl⟩, (hts _ (xm w_921))⟩) rfl hl.1 rfl (Nat.le_of_ble_eq_true rfl) d_M_quantify_8 (fun H locs hw => ?_)
      refine W.eq (g2 := F0 m 11 ls [.int r_31]) rfl ?_
      refine lv_if_eq (tgt := 18) hx hb d_M_quantify_11 (by decide) (fun _ => ?_) (fun c9 => absurd hc4 c9)
      exact w9 p e s m args below meth c A H locs ls F hw (lv_sub hl [0, 1, 2, 3, 4] rfl)
    · have k := k.2 hc4
      obtain ⟨rv, v9, hK, hle_u_30, w9⟩ := t_M_quantify_J19 l Z u x0 x1 x2 x3 x4 (1 : Int32) u_30 k
      have hle_u_18 : x_le u_18 v9 := (hM3.1).tr hle_u_30
      have hle_u : x_le u v9 := (hM1.1).tr hle_u_18
      refine ⟨rv, v9, hK, hle_u, ?_⟩
      intro p e s m args below meth c A H locs ls F hw hl
      obtain ⟨⟨hx, hb, hml, hown, hts⟩, hr, hlocks, hmn⟩ := id F
      refine lv_iload_n hx hb d_M_quantify_0 rfl (lv_at hl 1 rfl) ?_
      refine xr_cS (As := [.int x1]) (rest := []) ⟨hx, hb, hml, hown, hts⟩ hw hM1 hle_u_18 (fun _ _ => ⟨callB_of 1 hts (xgood w_922) rfl rfl rfl (hts _ (xm w_8)) (hts _ (xm w_920)) ⟨by decide, by decide, by decide +kernel⟩ ⟨Nat.le_of_ble_eq_true rfl, Nat.le_of_ble_eq_true rfl⟩, (hts _ (xm w_921))⟩) rfl hl.1 rfl (Nat.le_of_ble_eq_true rfl) d_M_quantify_1 (fun H locs hw => ?_)
      refine W.eq (g2 := F0 m 4 ls [.int r_19]) rfl ?_
      refine lv_if_eq (tgt := 18) hx hb d_M_quantify_4 (by decide) (fun c9 => absurd c9 hc2) (fun _ => ?_)
      refine lv_iload_n hx hb d_M_quantify_7 rfl (lv_at hl 2 rfl) ?_
      refine xr_cS (As := [.int x2]) (rest := []) ⟨hx, hb, hml, hown, hts⟩ hw hM3 hle_u_30 (fun _ _ => ⟨callB_of 1 hts (xgood w_922) rfl rfl rfl (hts _ (xm w_8)) (hts _ (xm w_920)) ⟨by decide, by decide, by decide +kernel⟩ ⟨Nat.le_of_ble_eq_true rfl, Nat.le_of_ble_eq_true rfl⟩, (hts _ (xm w_921))⟩) rfl hl.1 rfl (Nat.le_of_ble_eq_true rfl) d_M_quantify_8 (fun H locs hw => ?_)
      refine W.eq (g2 := F0 m 11 ls [.int r_31]) rfl ?_
      refine lv_if_eq (tgt := 18) hx hb d_M_quantify_11 (by decide) (fun c9 => absurd c9 hc4) (fun _ => ?_)
      refine lv_iconst (v := 1) hx hb d_M_quantify_14 (by decide) ?_
      refine lv_goto (tgt := 19) hx hb d_M_quantify_15 (by decide) ?_
      exact w9 p e s m args below meth c A H locs ls F hw (lv_sub hl [0, 1, 2, 3, 4] rfl)
set_option maxRecDepth 100000 in
set_option maxHeartbeats 4000000 in
theorem t_M_meet_J109 (l : Launch) (Z : XZ) (u0 : PS) {Kv : Option Value → PS → Prop} {R : Int32 → PS → Prop} {E116 : PS → Prop} (x0 : Nat) (x1 : Int32) (x2 : Int32) (x3 : Int32) (x4 : Int32) (x6 : Int32) (s0 : Nat) (s1 : Int32) (s2 : Int32) (u : PS) (hR : ∀ (y6 : Int32) (v : PS), R y6 v → XN l Z i_M_meet u0 Kv v 70 [(0, .ref x0), (1, .int x1), (2, .int x2), (3, .int x3), (4, .int x4), (6, .int y6)] []) (hE116 : ∀ (v : PS), E116 v → XN l Z i_M_meet u0 Kv v 116 [(0, .ref x0), (1, .int x1), (4, .int x4)] []) (k : (p_M_meet_J109 R E116 x0 x1 x2 x3 x4 x6 s0 s1 s2 u)) : XN l Z i_M_meet u0 Kv u 109 [(0, .ref x0), (1, .int x1), (2, .int x2), (3, .int x3), (4, .int x4), (6, .int x6)] [.int s2, .int s1, .ref s0] := by
  unfold p_M_meet_J109 at k
  obtain ⟨u_29, h1, k⟩ := k
  obtain ⟨y2, ey2⟩ : ∃ y9 : Int32, y9 = x6 + 1 := ⟨_, rfl⟩
  have k := k y2 ey2
  obtain ⟨rv, v9, hK, hle_u_29, w9⟩ := hR y2 u_29 k
  have hle_u : x_le u v9 := (h1.le).tr hle_u_29
  refine ⟨rv, v9, hK, hle_u, ?_⟩
  intro p e s m args below meth c A H locs ls F hw hl
  obtain ⟨⟨hx, hb, hml, hown, hts⟩, hr, hlocks, hmn⟩ := id F
  refine xr_zast hx hb hw h1 d_M_meet_109 (fun H locs hw => ?_)
  refine lv_iinc (v := y2) (lv' := [(6, .int y2), (0, .ref x0), (1, .int x1), (2, .int x2), (3, .int x3), (4, .int x4)]) hx hb d_M_meet_110 hl (k := 5) rfl (by subst ey2; rfl) (by decide) rfl (fun ls hl => ?_)
  refine lv_goto (tgt := 70) hx hb d_M_meet_113 (by decide) ?_
  exact w9 p e s m args below meth c A H locs ls F hw (lv_sub hl [1, 2, 3, 4, 5, 0] rfl)
set_option maxRecDepth 100000 in
set_option maxHeartbeats 4000000 in
theorem t_M_meet_J108 (l : Launch) (Z : XZ) (u0 : PS) {Kv : Option Value → PS → Prop} {R : Int32 → PS → Prop} {E116 : PS → Prop} (x0 : Nat) (x1 : Int32) (x2 : Int32) (x3 : Int32) (x4 : Int32) (x6 : Int32) (s0 : Nat) (s1 : Int32) (u : PS) (hR : ∀ (y6 : Int32) (v : PS), R y6 v → XN l Z i_M_meet u0 Kv v 70 [(0, .ref x0), (1, .int x1), (2, .int x2), (3, .int x3), (4, .int x4), (6, .int y6)] []) (hE116 : ∀ (v : PS), E116 v → XN l Z i_M_meet u0 Kv v 116 [(0, .ref x0), (1, .int x1), (4, .int x4)] []) (k : (p_M_meet_J108 R E116 x0 x1 x2 x3 x4 x6 s0 s1 u)) : XN l Z i_M_meet u0 Kv u 108 [(0, .ref x0), (1, .int x1), (2, .int x2), (3, .int x3), (4, .int x4), (6, .int x6)] [.int s1, .ref s0] := by
  unfold p_M_meet_J108 at k
  obtain ⟨rv, v9, hK, hle_u, w9⟩ := t_M_meet_J109 l Z u0 x0 x1 x2 x3 x4 x6 s0 s1 (0 : Int32) u hR hE116 k
  refine ⟨rv, v9, hK, hle_u, ?_⟩
  intro p e s m args below meth c A H locs ls F hw hl
  obtain ⟨⟨hx, hb, hml, hown, hts⟩, hr, hlocks, hmn⟩ := id F
  refine lv_iconst (v := 0) hx hb d_M_meet_108 (by decide) ?_
  exact w9 p e s m args below meth c A H locs ls F hw (lv_sub hl [0, 1, 2, 3, 4, 5] rfl)
set_option maxRecDepth 100000 in
set_option maxHeartbeats 4000000 in
theorem t_M_meet_L70 (l : Launch) (Z : XZ) (u0 : PS) {Kv : Option Value → PS → Prop} {E116 : PS → Prop} (x0 : Nat) (x1 : Int32) (x2 : Int32) (x3 : Int32) (x4 : Int32) (hE116 : ∀ (v : PS), E116 v → XN l Z i_M_meet u0 Kv v 116 [(0, .ref x0), (1, .int x1), (4, .int x4)] []) : ∀ (n : Nat) (x6 : Int32) (u : PS), p_M_meet_L70 x0 x1 x2 x3 x4 E116 n x6 u → XN l Z i_M_meet u0 Kv u 70 [(0, .ref x0), (1, .int x1), (2, .int x2), (3, .int x3), (4, .int x4), (6, .int x6)] [] := by
  intro n
  induction n with
  | zero => intro x6 u k; exact False.elim k
  | succ n ih =>
    intro x6 u k
    rw [p_M_meet_L70] at k
    by_cases hc1 : 1024 ≤ x6
    · have k := k.1 hc1
      obtain ⟨rv, v9, hK, hle_u, w9⟩ := hE116 u k
      refine ⟨rv, v9, hK, hle_u, ?_⟩
      intro p e s m args below meth c A H locs ls F hw hl
      obtain ⟨⟨hx, hb, hml, hown, hts⟩, hr, hlocks, hmn⟩ := id F
      refine lv_iload hx hb d_M_meet_70 (lv_at hl 5 rfl) ?_
      refine lv_sipush (v := 1024) hx hb d_M_meet_72 (by decide) ?_
      refine lv_icmp_ge (tgt := 116) hx hb d_M_meet_75 (by decide) (fun _ => ?_) (fun c9 => absurd hc1 c9)
      exact w9 p e s m args below meth c A H locs ls F hw (lv_sub hl [0, 1, 4] rfl)
    · have k := k.2 hc1
      obtain ⟨z_26, h2, k⟩ := k
      obtain ⟨h4, k⟩ := k
      obtain ⟨_, u_27, ⟨r_28, rfl, k⟩, hM3⟩ := c_M_is l Z x0 x2 x6 u _ k
      by_cases hc5 : r_28 = 0
      · have k := k.1 hc5
        obtain ⟨rv, v9, hK, hle_u_27, w9⟩ := t_M_meet_J108 l Z u0 x0 x1 x2 x3 x4 x6 z_26 x6 u_27 ih hE116 k
        have hle_u : x_le u v9 := (hM3.1).tr hle_u_27
        refine ⟨rv, v9, hK, hle_u, ?_⟩
        intro p e s m args below meth c A H locs ls F hw hl
        obtain ⟨⟨hx, hb, hml, hown, hts⟩, hr, hlocks, hmn⟩ := id F
        refine lv_iload hx hb d_M_meet_70 (lv_at hl 5 rfl) ?_
        refine lv_sipush (v := 1024) hx hb d_M_meet_72 (by decide) ?_
        refine lv_icmp_ge (tgt := 116) hx hb d_M_meet_75 (by decide) (fun c9 => absurd c9 hc1) (fun _ => ?_)
        refine lv_aload_n hx hb d_M_meet_78 rfl (lv_at hl 0 rfl) ?_
        refine xr_get hx hb hts (xmu uws_M) hown hw h2 rfl (by decide) (hts _ (xm w_870)) (fun _ h9 => h9) d_M_meet_79 ?_
        refine lv_iload hx hb d_M_meet_82 (lv_at hl 5 rfl) ?_
        refine lv_aload_n hx hb d_M_meet_84 rfl (lv_at hl 0 rfl) ?_
        refine lv_iload_n hx hb d_M_meet_85 rfl (lv_at hl 2 rfl) ?_
        refine lv_iload hx hb d_M_meet_86 (lv_at hl 5 rfl) ?_
        refine xr_cV (As := [.int x2, .int x6]) (rest := [.int x6, .ref z_26]) ⟨hx, hb, hml, hown, hts⟩ hw hM3 hle_u_27 (fun _ _ => ⟨callB_of 2 hts (xgood w_944) rfl rfl rfl (hts _ (xm w_8)) (hts _ (xm w_941)) ⟨by decide, by decide, by decide +kernel⟩ ⟨Nat.le_of_ble_eq_true rfl, Nat.le_of_ble_eq_true rfl⟩, (hts _ (xm w_943)), (hts _ (xm wp_39))⟩) (qc := (R_M, F_M, 14)) rfl rfl h4 rfl hl.1 rfl (Nat.le_of_ble_eq_true rfl) d_M_meet_88 (fun H locs hw => ?_)
        refine W.eq (g2 := F0 m 91 ls [.int r_28, .int x6, .ref z_26]) rfl ?_
        refine lv_if_eq (tgt := 108) hx hb d_M_meet_91 (by decide) (fun _ => ?_) (fun c9 => absurd hc5 c9)
        exact w9 p e s m args below meth c A H locs ls F hw (lv_sub hl [0, 1, 2, 3, 4, 5] rfl)
      · have k := k.2 hc5
        obtain ⟨h7, k⟩ := k
        obtain ⟨_, u_30, ⟨r_31, rfl, k⟩, hM6⟩ := c_M_is l Z x0 x3 x6 u_27 _ k
        by_cases hc8 : r_31 = 0
        · have k := k.1 hc8
          obtain ⟨rv, v9, hK, hle_u_30, w9⟩ := t_M_meet_J108 l Z u0 x0 x1 x2 x3 x4 x6 z_26 x6 u_30 ih hE116 k
          have hle_u_27 : x_le u_27 v9 := (hM6.1).tr hle_u_30
          have hle_u : x_le u v9 := (hM3.1).tr hle_u_27
          refine ⟨rv, v9, hK, hle_u, ?_⟩
          intro p e s m args below meth c A H locs ls F hw hl
          obtain ⟨⟨hx, hb, hml, hown, hts⟩, hr, hlocks, hmn⟩ := id F
          refine lv_iload hx hb d_M_meet_70 (lv_at hl 5 rfl) ?_
          refine lv_sipush (v := 1024) hx hb d_M_meet_72 (by decide) ?_
          refine lv_icmp_ge (tgt := 116) hx hb d_M_meet_75 (by decide) (fun c9 => absurd c9 hc1) (fun _ => ?_)
          refine lv_aload_n hx hb d_M_meet_78 rfl (lv_at hl 0 rfl) ?_
          refine xr_get hx hb hts (xmu uws_M) hown hw h2 rfl (by decide) (hts _ (xm w_870)) (fun _ h9 => h9) d_M_meet_79 ?_
          refine lv_iload hx hb d_M_meet_82 (lv_at hl 5 rfl) ?_
          refine lv_aload_n hx hb d_M_meet_84 rfl (lv_at hl 0 rfl) ?_
          refine lv_iload_n hx hb d_M_meet_85 rfl (lv_at hl 2 rfl) ?_
          refine lv_iload hx hb d_M_meet_86 (lv_at hl 5 rfl) ?_
          refine xr_cV (As := [.int x2, .int x6]) (rest := [.int x6, .ref z_26]) ⟨hx, hb, hml, hown, hts⟩ hw hM3 hle_u_27 (fun _ _ => ⟨callB_of 2 hts (xgood w_944) rfl rfl rfl (hts _ (xm w_8)) (hts _ (xm w_941)) ⟨by decide, by decide, by decide +kernel⟩ ⟨Nat.le_of_ble_eq_true rfl, Nat.le_of_ble_eq_true rfl⟩, (hts _ (xm w_943)), (hts _ (xm wp_39))⟩) (qc := (R_M, F_M, 14)) rfl rfl h4 rfl hl.1 rfl (Nat.le_of_ble_eq_true rfl) d_M_meet_88 (fun H locs hw => ?_)
          refine W.eq (g2 := F0 m 91 ls [.int r_28, .int x6, .ref z_26]) rfl ?_
          refine lv_if_eq (tgt := 108) hx hb d_M_meet_91 (by decide) (fun c9 => absurd c9 hc5) (fun _ => ?_)
          refine lv_aload_n hx hb d_M_meet_94 rfl (lv_at hl 0 rfl) ?_
          refine lv_iload_n hx hb d_M_meet_95 rfl (lv_at hl 3 rfl) ?_
          refine lv_iload hx hb d_M_meet_96 (lv_at hl 5 rfl) ?_
          refine xr_cV (As := [.int x3, .int x6]) (rest := [.int x6, .ref z_26]) ⟨hx, hb, hml, hown, hts⟩ hw hM6 hle_u_30 (fun _ _ => ⟨callB_of 2 hts (xgood w_944) rfl rfl rfl (hts _ (xm w_8)) (hts _ (xm w_941)) ⟨by decide, by decide, by decide +kernel⟩ ⟨Nat.le_of_ble_eq_true rfl, Nat.le_of_ble_eq_true rfl⟩, (hts _ (xm w_943)), (hts _ (xm wp_39))⟩) (qc := (R_M, F_M, 14)) rfl rfl h7 rfl hl.1 rfl (Nat.le_of_ble_eq_true rfl) d_M_meet_98 (fun H locs hw => ?_)
          refine W.eq (g2 := F0 m 101 ls [.int r_31, .int x6, .ref z_26]) rfl ?_
          refine lv_if_eq (tgt := 108) hx hb d_M_meet_101 (by decide) (fun _ => ?_) (fun c9 => absurd hc8 c9)
          exact w9 p e s m args below meth c A H locs ls F hw (lv_sub hl [0, 1, 2, 3, 4, 5] rfl)
        · have k := k.2 hc8
          obtain ⟨rv, v9, hK, hle_u_30, w9⟩ := t_M_meet_J109 l Z u0 x0 x1 x2 x3 x4 x6 z_26 x6 (1 : Int32) u_30 ih hE116 k
          have hle_u_27 : x_le u_27 v9 := (hM6.1).tr hle_u_30
          have hle_u : x_le u v9 := (hM3.1).tr hle_u_27
          refine ⟨rv, v9, hK, hle_u, ?_⟩
          intro p e s m args below meth c A H locs ls F hw hl
          obtain ⟨⟨hx, hb, hml, hown, hts⟩, hr, hlocks, hmn⟩ := id F
          refine lv_iload hx hb d_M_meet_70 (lv_at hl 5 rfl) ?_
          refine lv_sipush (v := 1024) hx hb d_M_meet_72 (by decide) ?_
          refine lv_icmp_ge (tgt := 116) hx hb d_M_meet_75 (by decide) (fun c9 => absurd c9 hc1) (fun _ => ?_)
          refine lv_aload_n hx hb d_M_meet_78 rfl (lv_at hl 0 rfl) ?_
          refine xr_get hx hb hts (xmu uws_M) hown hw h2 rfl (by decide) (hts _ (xm w_870)) (fun _ h9 => h9) d_M_meet_79 ?_
          refine lv_iload hx hb d_M_meet_82 (lv_at hl 5 rfl) ?_
          refine lv_aload_n hx hb d_M_meet_84 rfl (lv_at hl 0 rfl) ?_
          refine lv_iload_n hx hb d_M_meet_85 rfl (lv_at hl 2 rfl) ?_
          refine lv_iload hx hb d_M_meet_86 (lv_at hl 5 rfl) ?_
          refine xr_cV (As := [.int x2, .int x6]) (rest := [.int x6, .ref z_26]) ⟨hx, hb, hml, hown, hts⟩ hw hM3 hle_u_27 (fun _ _ => ⟨callB_of 2 hts (xgood w_944) rfl rfl rfl (hts _ (xm w_8)) (hts _ (xm w_941)) ⟨by decide, by decide, by decide +kernel⟩ ⟨Nat.le_of_ble_eq_true rfl, Nat.le_of_ble_eq_true rfl⟩, (hts _ (xm w_943)), (hts _ (xm wp_39))⟩) (qc := (R_M, F_M, 14)) rfl rfl h4 rfl hl.1 rfl (Nat.le_of_ble_eq_true rfl) d_M_meet_88 (fun H locs hw => ?_)
          refine W.eq (g2 := F0 m 91 ls [.int r_28, .int x6, .ref z_26]) rfl ?_
          refine lv_if_eq (tgt := 108) hx hb d_M_meet_91 (by decide) (fun c9 => absurd c9 hc5) (fun _ => ?_)
          refine lv_aload_n hx hb d_M_meet_94 rfl (lv_at hl 0 rfl) ?_
          refine lv_iload_n hx hb d_M_meet_95 rfl (lv_at hl 3 rfl) ?_
          refine lv_iload hx hb d_M_meet_96 (lv_at hl 5 rfl) ?_
          refine xr_cV (As := [.int x3, .int x6]) (rest := [.int x6, .ref z_26]) ⟨hx, hb, hml, hown, hts⟩ hw hM6 hle_u_30 (fun _ _ => ⟨callB_of 2 hts (xgood w_944) rfl rfl rfl (hts _ (xm w_8)) (hts _ (xm w_941)) ⟨by decide, by decide, by decide +kernel⟩ ⟨Nat.le_of_ble_eq_true rfl, Nat.le_of_ble_eq_true rfl⟩, (hts _ (xm w_943)), (hts _ (xm wp_39))⟩) (qc := (R_M, F_M, 14)) rfl rfl h7 rfl hl.1 rfl (Nat.le_of_ble_eq_true rfl) d_M_meet_98 (fun H locs hw => ?_)
          refine W.eq (g2 := F0 m 101 ls [.int r_31, .int x6, .ref z_26]) rfl ?_
          refine lv_if_eq (tgt := 108) hx hb d_M_meet_101 (by decide) (fun c9 => absurd c9 hc8) (fun _ => ?_)
          refine lv_iconst (v := 1) hx hb d_M_meet_104 (by decide) ?_
          refine lv_goto (tgt := 109) hx hb d_M_meet_105 (by decide) ?_
          exact w9 p e s m args below meth c A H locs ls F hw (lv_sub hl [0, 1, 2, 3, 4, 5] rfl)
set_option maxRecDepth 100000 in
set_option maxHeartbeats 4000000 in
theorem t_M_meet_J116 (l : Launch) (Z : XZ) (u0 : PS) {K : PS → Prop} (x0 : Nat) (x1 : Int32) (x4 : Int32) (u : PS) (k : (p_M_meet_J116 K x0 x1 x4 u)) : XN l Z i_M_meet u0 (kV K) u 116 [(0, .ref x0), (1, .int x1), (4, .int x4)] [] := by
  unfold p_M_meet_J116 at k
  obtain ⟨h2, k⟩ := k
  obtain ⟨_, u_32, ⟨rfl, k⟩, hM1⟩ := c_M_quantifyMade l Z x0 x4 (0 : Int32) u _ k
  obtain ⟨h4, k⟩ := k
  obtain ⟨_, u_33, ⟨rfl, k⟩, hM3⟩ := c_M_take l Z x0 x1 u_32 _ k
  have hle_u_33 : x_le u_33 u_33 := x_le.rf u_33
  have hle_u_32 : x_le u_32 u_33 := (hM3.1).tr hle_u_33
  have hle_u : x_le u u_33 := (hM1.1).tr hle_u_32
  refine ⟨none, u_33, ⟨rfl, k⟩, hle_u, ?_⟩
  intro p e s m args below meth c A H locs ls F hw hl
  obtain ⟨⟨hx, hb, hml, hown, hts⟩, hr, hlocks, hmn⟩ := id F
  refine lv_aload_n hx hb d_M_meet_116 rfl (lv_at hl 0 rfl) ?_
  refine lv_iload hx hb d_M_meet_117 (lv_at hl 2 rfl) ?_
  refine lv_iconst (v := 0) hx hb d_M_meet_119 (by decide) ?_
  refine xr_cV (As := [.int x4, .int 0]) (rest := []) ⟨hx, hb, hml, hown, hts⟩ hw hM1 hle_u_32 (fun _ _ => ⟨callB_of 2 hts (xgood w_971) rfl rfl rfl (hts _ (xm w_8)) (hts _ (xm w_968)) ⟨by decide, by decide, by decide +kernel⟩ ⟨Nat.le_of_ble_eq_true rfl, Nat.le_of_ble_eq_true rfl⟩, (hts _ (xm w_970)), (hts _ (xm wp_41))⟩) (qc := (R_M, F_M, 14)) rfl rfl h2 rfl hl.1 rfl (Nat.le_of_ble_eq_true rfl) d_M_meet_120 (fun H locs hw => ?_)
  refine W.eq (g2 := F0 m 123 ls []) rfl ?_
  refine lv_aload_n hx hb d_M_meet_123 rfl (lv_at hl 0 rfl) ?_
  refine lv_iload_n hx hb d_M_meet_124 rfl (lv_at hl 1 rfl) ?_
  refine xr_cV (As := [.int x1]) (rest := []) ⟨hx, hb, hml, hown, hts⟩ hw hM3 hle_u_33 (fun _ _ => ⟨callB_of 1 hts (xgood w_951) rfl rfl rfl (hts _ (xm w_8)) (hts _ (xm w_948)) ⟨by decide, by decide, by decide +kernel⟩ ⟨Nat.le_of_ble_eq_true rfl, Nat.le_of_ble_eq_true rfl⟩, (hts _ (xm w_950)), (hts _ (xm wp_40))⟩) (qc := (R_M, F_M, 14)) rfl rfl h4 rfl hl.1 rfl (Nat.le_of_ble_eq_true rfl) d_M_meet_125 (fun H locs hw => ?_)
  refine W.eq (g2 := F0 m 128 ls []) rfl ?_
  exact xr_vret F rfl hw d_M_meet_128
set_option maxRecDepth 100000 in
set_option maxHeartbeats 4000000 in
theorem t_M_meet_J61 (l : Launch) (Z : XZ) (u0 : PS) {K : PS → Prop} (x0 : Nat) (x1 : Int32) (x2 : Int32) (x3 : Int32) (x4 : Int32) (s0 : Nat) (s1 : Int32) (s2 : Int32) (u : PS) (k : (p_M_meet_J61 K x0 x1 x2 x3 x4 s0 s1 s2 u)) : XN l Z i_M_meet u0 (kV K) u 61 [(0, .ref x0), (1, .int x1), (2, .int x2), (3, .int x3), (4, .int x4)] [.int s2, .int s1, .ref s0] := by
  unfold p_M_meet_J61 at k
  obtain ⟨h2, k⟩ := k
  obtain ⟨_, u_24, ⟨r_25, rfl, k⟩, hM1⟩ := c_M_refuse l Z s0 s1 s2 u _ k
  by_cases hc3 : r_25 = 0
  · have k := k.2 hc3
    obtain ⟨n4, k⟩ := k
    have hx6 : ∀ (v5 : PS), (p_M_meet_J116 K x0 x1 x4 v5) → XN l Z i_M_meet u0 (kV K) v5 116 [(0, .ref x0), (1, .int x1), (4, .int x4)] [] := by
      intro v5 k
      obtain ⟨rv, v9, hK, hle_v5, w9⟩ := t_M_meet_J116 l Z u0 x0 x1 x4 v5 k
      refine ⟨rv, v9, hK, hle_v5, ?_⟩
      intro p e s m args below meth c A H locs ls F hw hl
      obtain ⟨⟨hx, hb, hml, hown, hts⟩, hr, hlocks, hmn⟩ := id F
      exact w9 p e s m args below meth c A H locs ls F hw (lv_sub hl [0, 1, 2] rfl)
    obtain ⟨rv, v9, hK, hle_u_24, w9⟩ := t_M_meet_L70 l Z u0 x0 x1 x2 x3 x4 hx6 n4 (0 : Int32) u_24 k
    have hle_u : x_le u v9 := (hM1.1).tr hle_u_24
    refine ⟨rv, v9, hK, hle_u, ?_⟩
    intro p e s m args below meth c A H locs ls F hw hl
    obtain ⟨⟨hx, hb, hml, hown, hts⟩, hr, hlocks, hmn⟩ := id F
    refine xr_cV (As := [.int s1, .int s2]) (rest := []) ⟨hx, hb, hml, hown, hts⟩ hw hM1 hle_u_24 (fun _ _ => ⟨callB_of 2 hts (xgood w_929) rfl rfl rfl (hts _ (xm w_8)) (hts _ (xm w_926)) ⟨by decide, by decide, by decide +kernel⟩ ⟨Nat.le_of_ble_eq_true rfl, Nat.le_of_ble_eq_true rfl⟩, (hts _ (xm w_928)), (hts _ (xm wp_38))⟩) (qc := (R_M, F_M, 14)) rfl rfl h2 rfl hl.1 rfl (Nat.le_of_ble_eq_true rfl) d_M_meet_61 (fun H locs hw => ?_)
    refine W.eq (g2 := F0 m 64 ls [.int r_25]) rfl ?_
    refine lv_if_ne (tgt := 128) hx hb d_M_meet_64 (by decide) (fun c9 => absurd hc3 c9) (fun _ => ?_)
    refine lv_iconst (v := 0) hx hb d_M_meet_67 (by decide) ?_
    refine lv_istore (lv' := [(6, .int 0), (0, .ref x0), (1, .int x1), (2, .int x2), (3, .int x3), (4, .int x4)]) hx hb d_M_meet_68 hl (by decide) rfl (fun ls hl => ?_)
    exact w9 p e s m args below meth c A H locs ls F hw (lv_sub hl [1, 2, 3, 4, 5, 0] rfl)
  · have k := k.1 hc3
    have hle_u_24 : x_le u_24 u_24 := x_le.rf u_24
    have hle_u : x_le u u_24 := (hM1.1).tr hle_u_24
    refine ⟨none, u_24, ⟨rfl, k⟩, hle_u, ?_⟩
    intro p e s m args below meth c A H locs ls F hw hl
    obtain ⟨⟨hx, hb, hml, hown, hts⟩, hr, hlocks, hmn⟩ := id F
    refine xr_cV (As := [.int s1, .int s2]) (rest := []) ⟨hx, hb, hml, hown, hts⟩ hw hM1 hle_u_24 (fun _ _ => ⟨callB_of 2 hts (xgood w_929) rfl rfl rfl (hts _ (xm w_8)) (hts _ (xm w_926)) ⟨by decide, by decide, by decide +kernel⟩ ⟨Nat.le_of_ble_eq_true rfl, Nat.le_of_ble_eq_true rfl⟩, (hts _ (xm w_928)), (hts _ (xm wp_38))⟩) (qc := (R_M, F_M, 14)) rfl rfl h2 rfl hl.1 rfl (Nat.le_of_ble_eq_true rfl) d_M_meet_61 (fun H locs hw => ?_)
    refine W.eq (g2 := F0 m 64 ls [.int r_25]) rfl ?_
    refine lv_if_ne (tgt := 128) hx hb d_M_meet_64 (by decide) (fun _ => ?_) (fun c9 => absurd c9 hc3)
    exact xr_vret F rfl hw d_M_meet_128
set_option maxRecDepth 100000 in
set_option maxHeartbeats 4000000 in
theorem t_M_meet_J60 (l : Launch) (Z : XZ) (u0 : PS) {K : PS → Prop} (x0 : Nat) (x1 : Int32) (x2 : Int32) (x3 : Int32) (x4 : Int32) (s0 : Nat) (s1 : Int32) (u : PS) (k : (p_M_meet_J60 K x0 x1 x2 x3 x4 s0 s1 u)) : XN l Z i_M_meet u0 (kV K) u 60 [(0, .ref x0), (1, .int x1), (2, .int x2), (3, .int x3), (4, .int x4)] [.int s1, .ref s0] := by
  unfold p_M_meet_J60 at k
  obtain ⟨rv, v9, hK, hle_u, w9⟩ := t_M_meet_J61 l Z u0 x0 x1 x2 x3 x4 s0 s1 (0 : Int32) u k
  refine ⟨rv, v9, hK, hle_u, ?_⟩
  intro p e s m args below meth c A H locs ls F hw hl
  obtain ⟨⟨hx, hb, hml, hown, hts⟩, hr, hlocks, hmn⟩ := id F
  refine lv_iconst (v := 0) hx hb d_M_meet_60 (by decide) ?_
  exact w9 p e s m args below meth c A H locs ls F hw (lv_sub hl [0, 1, 2, 3, 4] rfl)
set_option maxRecDepth 100000 in
set_option maxHeartbeats 4000000 in
theorem t_M_meet_J39 (l : Launch) (Z : XZ) (u0 : PS) {K : PS → Prop} (x0 : Nat) (x1 : Int32) (x2 : Int32) (x3 : Int32) (x4 : Int32) (x5 : Int32) (s0 : Nat) (s1 : Int32) (u : PS) (k : (p_M_meet_J39 K x0 x1 x2 x3 x4 x5 s0 s1 u)) : XN l Z i_M_meet u0 (kV K) u 39 [(0, .ref x0), (1, .int x1), (2, .int x2), (3, .int x3), (4, .int x4), (5, .int x5)] [.int s1, .ref s0] := by
  unfold p_M_meet_J39 at k
  by_cases hc1 : x5 = 0
  · have k := k.1 hc1
    obtain ⟨rv, v9, hK, hle_u, w9⟩ := t_M_meet_J60 l Z u0 x0 x1 x2 x3 x4 s0 s1 u k
    refine ⟨rv, v9, hK, hle_u, ?_⟩
    intro p e s m args below meth c A H locs ls F hw hl
    obtain ⟨⟨hx, hb, hml, hown, hts⟩, hr, hlocks, hmn⟩ := id F
    refine lv_iload hx hb d_M_meet_39 (lv_at hl 5 rfl) ?_
    refine lv_if_eq (tgt := 60) hx hb d_M_meet_41 (by decide) (fun _ => ?_) (fun c9 => absurd hc1 c9)
    exact w9 p e s m args below meth c A H locs ls F hw (lv_sub hl [0, 1, 2, 3, 4] rfl)
  · have k := k.2 hc1
    obtain ⟨_, u_34, ⟨r_35, rfl, k⟩, hM2⟩ := c_M_in l Z x4 (0 : Int32) (1023 : Int32) u _ k
    by_cases hc3 : r_35 = 0
    · have k := k.2 hc3
      obtain ⟨rv, v9, hK, hle_u_34, w9⟩ := t_M_meet_J61 l Z u0 x0 x1 x2 x3 x4 s0 s1 (1 : Int32) u_34 k
      have hle_u : x_le u v9 := (hM2.1).tr hle_u_34
      refine ⟨rv, v9, hK, hle_u, ?_⟩
      intro p e s m args below meth c A H locs ls F hw hl
      obtain ⟨⟨hx, hb, hml, hown, hts⟩, hr, hlocks, hmn⟩ := id F
      refine lv_iload hx hb d_M_meet_39 (lv_at hl 5 rfl) ?_
      refine lv_if_eq (tgt := 60) hx hb d_M_meet_41 (by decide) (fun c9 => absurd c9 hc1) (fun _ => ?_)
      refine lv_iload hx hb d_M_meet_44 (lv_at hl 4 rfl) ?_
      refine lv_iconst (v := 0) hx hb d_M_meet_46 (by decide) ?_
      refine lv_sipush (v := 1023) hx hb d_M_meet_47 (by decide) ?_
      refine xr_cS (As := [.int x4, .int 0, .int 1023]) (rest := [.int s1, .ref s0]) ⟨hx, hb, hml, hown, hts⟩ hw hM2 hle_u_34 (fun _ _ => ⟨callB_of 3 hts (xgood w_925) rfl rfl rfl (hts _ (xm w_8)) (hts _ (xm w_923)) ⟨by decide, by decide, by decide +kernel⟩ ⟨Nat.le_of_ble_eq_true rfl, Nat.le_of_ble_eq_true rfl⟩, (hts _ (xm w_924))⟩) rfl hl.1 rfl (Nat.le_of_ble_eq_true rfl) d_M_meet_50 (fun H locs hw => ?_)
      refine W.eq (g2 := F0 m 53 ls [.int r_35, .int s1, .ref s0]) rfl ?_
      refine lv_if_ne (tgt := 60) hx hb d_M_meet_53 (by decide) (fun c9 => absurd hc3 c9) (fun _ => ?_)
      refine lv_iconst (v := 1) hx hb d_M_meet_56 (by decide) ?_
      refine lv_goto (tgt := 61) hx hb d_M_meet_57 (by decide) ?_
      exact w9 p e s m args below meth c A H locs ls F hw (lv_sub hl [0, 1, 2, 3, 4] rfl)
    · have k := k.1 hc3
      obtain ⟨rv, v9, hK, hle_u_34, w9⟩ := t_M_meet_J60 l Z u0 x0 x1 x2 x3 x4 s0 s1 u_34 k
      have hle_u : x_le u v9 := (hM2.1).tr hle_u_34
      refine ⟨rv, v9, hK, hle_u, ?_⟩
      intro p e s m args below meth c A H locs ls F hw hl
      obtain ⟨⟨hx, hb, hml, hown, hts⟩, hr, hlocks, hmn⟩ := id F
      refine lv_iload hx hb d_M_meet_39 (lv_at hl 5 rfl) ?_
      refine lv_if_eq (tgt := 60) hx hb d_M_meet_41 (by decide) (fun c9 => absurd c9 hc1) (fun _ => ?_)
      refine lv_iload hx hb d_M_meet_44 (lv_at hl 4 rfl) ?_
      refine lv_iconst (v := 0) hx hb d_M_meet_46 (by decide) ?_
      refine lv_sipush (v := 1023) hx hb d_M_meet_47 (by decide) ?_
      refine xr_cS (As := [.int x4, .int 0, .int 1023]) (rest := [.int s1, .ref s0]) ⟨hx, hb, hml, hown, hts⟩ hw hM2 hle_u_34 (fun _ _ => ⟨callB_of 3 hts (xgood w_925) rfl rfl rfl (hts _ (xm w_8)) (hts _ (xm w_923)) ⟨by decide, by decide, by decide +kernel⟩ ⟨Nat.le_of_ble_eq_true rfl, Nat.le_of_ble_eq_true rfl⟩, (hts _ (xm w_924))⟩) rfl hl.1 rfl (Nat.le_of_ble_eq_true rfl) d_M_meet_50 (fun H locs hw => ?_)
      refine W.eq (g2 := F0 m 53 ls [.int r_35, .int s1, .ref s0]) rfl ?_
      refine lv_if_ne (tgt := 60) hx hb d_M_meet_53 (by decide) (fun _ => ?_) (fun c9 => absurd c9 hc3)
      exact w9 p e s m args below meth c A H locs ls F hw (lv_sub hl [0, 1, 2, 3, 4] rfl)
set_option maxRecDepth 100000 in
set_option maxHeartbeats 4000000 in
theorem t_M_meet_J26 (l : Launch) (Z : XZ) (u0 : PS) {K : PS → Prop} (x0 : Nat) (x1 : Int32) (x2 : Int32) (x3 : Int32) (x4 : Int32) (s0 : Int32) (u : PS) (k : (p_M_meet_J26 K x0 x1 x2 x3 x4 s0 u)) : XN l Z i_M_meet u0 (kV K) u 26 [(0, .ref x0), (1, .int x1), (2, .int x2), (3, .int x3), (4, .int x4)] [.int s0] := by
  unfold p_M_meet_J26 at k
  by_cases hc1 : s0 = 0
  · have k := k.2 hc1
    obtain ⟨rv, v9, hK, hle_u, w9⟩ := t_M_meet_J39 l Z u0 x0 x1 x2 x3 x4 s0 x0 (1 : Int32) u k
    refine ⟨rv, v9, hK, hle_u, ?_⟩
    intro p e s m args below meth c A H locs ls F hw hl
    obtain ⟨⟨hx, hb, hml, hown, hts⟩, hr, hlocks, hmn⟩ := id F
    refine lv_istore (lv' := [(5, .int s0), (0, .ref x0), (1, .int x1), (2, .int x2), (3, .int x3), (4, .int x4)]) hx hb d_M_meet_26 hl (by decide) rfl (fun ls hl => ?_)
    refine lv_aload_n hx hb d_M_meet_28 rfl (lv_at hl 1 rfl) ?_
    refine lv_iload hx hb d_M_meet_29 (lv_at hl 0 rfl) ?_
    refine lv_if_ne (tgt := 38) hx hb d_M_meet_31 (by decide) (fun c9 => absurd hc1 c9) (fun _ => ?_)
    refine lv_iconst (v := 1) hx hb d_M_meet_34 (by decide) ?_
    refine lv_goto (tgt := 39) hx hb d_M_meet_35 (by decide) ?_
    exact w9 p e s m args below meth c A H locs ls F hw (lv_sub hl [1, 2, 3, 4, 5, 0] rfl)
  · have k := k.1 hc1
    obtain ⟨rv, v9, hK, hle_u, w9⟩ := t_M_meet_J39 l Z u0 x0 x1 x2 x3 x4 s0 x0 (0 : Int32) u k
    refine ⟨rv, v9, hK, hle_u, ?_⟩
    intro p e s m args below meth c A H locs ls F hw hl
    obtain ⟨⟨hx, hb, hml, hown, hts⟩, hr, hlocks, hmn⟩ := id F
    refine lv_istore (lv' := [(5, .int s0), (0, .ref x0), (1, .int x1), (2, .int x2), (3, .int x3), (4, .int x4)]) hx hb d_M_meet_26 hl (by decide) rfl (fun ls hl => ?_)
    refine lv_aload_n hx hb d_M_meet_28 rfl (lv_at hl 1 rfl) ?_
    refine lv_iload hx hb d_M_meet_29 (lv_at hl 0 rfl) ?_
    refine lv_if_ne (tgt := 38) hx hb d_M_meet_31 (by decide) (fun _ => ?_) (fun c9 => absurd c9 hc1)
    refine lv_iconst (v := 0) hx hb d_M_meet_38 (by decide) ?_
    exact w9 p e s m args below meth c A H locs ls F hw (lv_sub hl [1, 2, 3, 4, 5, 0] rfl)
set_option maxRecDepth 100000 in
set_option maxHeartbeats 4000000 in
theorem t_M_meet_J25 (l : Launch) (Z : XZ) (u0 : PS) {K : PS → Prop} (x0 : Nat) (x1 : Int32) (x2 : Int32) (x3 : Int32) (x4 : Int32) (u : PS) (k : (p_M_meet_J25 K x0 x1 x2 x3 x4 u)) : XN l Z i_M_meet u0 (kV K) u 25 [(0, .ref x0), (1, .int x1), (2, .int x2), (3, .int x3), (4, .int x4)] [] := by
  unfold p_M_meet_J25 at k
  obtain ⟨rv, v9, hK, hle_u, w9⟩ := t_M_meet_J26 l Z u0 x0 x1 x2 x3 x4 (0 : Int32) u k
  refine ⟨rv, v9, hK, hle_u, ?_⟩
  intro p e s m args below meth c A H locs ls F hw hl
  obtain ⟨⟨hx, hb, hml, hown, hts⟩, hr, hlocks, hmn⟩ := id F
  refine lv_iconst (v := 0) hx hb d_M_meet_25 (by decide) ?_
  exact w9 p e s m args below meth c A H locs ls F hw (lv_sub hl [0, 1, 2, 3, 4] rfl)
set_option maxRecDepth 100000 in
set_option maxHeartbeats 4000000 in
theorem c_M_meet (l : Launch) (Z : XZ) (x0 : Nat) (x1 : Int32) (x2 : Int32) (x3 : Int32) (x4 : Int32) (u : PS) (K : PS → Prop) (k : p_M_meet x0 x1 x2 x3 x4 u K) : ∃ (rv : Option Value) (u1 : PS), (kV K) rv u1 ∧ XMet l Z i_M_meet [.ref x0, .int x1, .int x2, .int x3, .int x4] u rv u1 := by
  refine x_met (by decide) rfl (Nat.le_of_ble_eq_true rfl) ?_
  show XN l Z i_M_meet u (kV K) u 0 [(0, .ref x0), (1, .int x1), (2, .int x2), (3, .int x3), (4, .int x4)] []
  unfold p_M_meet at k
  obtain ⟨_, u_22, ⟨r_23, rfl, k⟩, hM1⟩ := c_M_isPlace l Z x1 u _ k
  by_cases hc2 : r_23 = 0
  · have k := k.1 hc2
    obtain ⟨rv, v9, hK, hle_u_22, w9⟩ := t_M_meet_J25 l Z u x0 x1 x2 x3 x4 u_22 k
    have hle_u : x_le u v9 := (hM1.1).tr hle_u_22
    refine ⟨rv, v9, hK, hle_u, ?_⟩
    intro p e s m args below meth c A H locs ls F hw hl
    obtain ⟨⟨hx, hb, hml, hown, hts⟩, hr, hlocks, hmn⟩ := id F
    refine lv_iload_n hx hb d_M_meet_0 rfl (lv_at hl 1 rfl) ?_
    refine xr_cS (As := [.int x1]) (rest := []) ⟨hx, hb, hml, hown, hts⟩ hw hM1 hle_u_22 (fun _ _ => ⟨callB_of 1 hts (xgood w_922) rfl rfl rfl (hts _ (xm w_8)) (hts _ (xm w_920)) ⟨by decide, by decide, by decide +kernel⟩ ⟨Nat.le_of_ble_eq_true rfl, Nat.le_of_ble_eq_true rfl⟩, (hts _ (xm w_921))⟩) rfl hl.1 rfl (Nat.le_of_ble_eq_true rfl) d_M_meet_1 (fun H locs hw => ?_)
    refine W.eq (g2 := F0 m 4 ls [.int r_23]) rfl ?_
    refine lv_if_eq (tgt := 25) hx hb d_M_meet_4 (by decide) (fun _ => ?_) (fun c9 => absurd hc2 c9)
    exact w9 p e s m args below meth c A H locs ls F hw (lv_sub hl [0, 1, 2, 3, 4] rfl)
  · have k := k.2 hc2
    obtain ⟨_, u_36, ⟨r_37, rfl, k⟩, hM3⟩ := c_M_isPlace l Z x2 u_22 _ k
    by_cases hc4 : r_37 = 0
    · have k := k.1 hc4
      obtain ⟨rv, v9, hK, hle_u_36, w9⟩ := t_M_meet_J25 l Z u x0 x1 x2 x3 x4 u_36 k
      have hle_u_22 : x_le u_22 v9 := (hM3.1).tr hle_u_36
      have hle_u : x_le u v9 := (hM1.1).tr hle_u_22
      refine ⟨rv, v9, hK, hle_u, ?_⟩
      intro p e s m args below meth c A H locs ls F hw hl
      obtain ⟨⟨hx, hb, hml, hown, hts⟩, hr, hlocks, hmn⟩ := id F
      refine lv_iload_n hx hb d_M_meet_0 rfl (lv_at hl 1 rfl) ?_
      refine xr_cS (As := [.int x1]) (rest := []) ⟨hx, hb, hml, hown, hts⟩ hw hM1 hle_u_22 (fun _ _ => ⟨callB_of 1 hts (xgood w_922) rfl rfl rfl (hts _ (xm w_8)) (hts _ (xm w_920)) ⟨by decide, by decide, by decide +kernel⟩ ⟨Nat.le_of_ble_eq_true rfl, Nat.le_of_ble_eq_true rfl⟩, (hts _ (xm w_921))⟩) rfl hl.1 rfl (Nat.le_of_ble_eq_true rfl) d_M_meet_1 (fun H locs hw => ?_)
      refine W.eq (g2 := F0 m 4 ls [.int r_23]) rfl ?_
      refine lv_if_eq (tgt := 25) hx hb d_M_meet_4 (by decide) (fun c9 => absurd c9 hc2) (fun _ => ?_)
      refine lv_iload_n hx hb d_M_meet_7 rfl (lv_at hl 2 rfl) ?_
      refine xr_cS (As := [.int x2]) (rest := []) ⟨hx, hb, hml, hown, hts⟩ hw hM3 hle_u_36 (fun _ _ => ⟨callB_of 1 hts (xgood w_922) rfl rfl rfl (hts _ (xm w_8)) (hts _ (xm w_920)) ⟨by decide, by decide, by decide +kernel⟩ ⟨Nat.le_of_ble_eq_true rfl, Nat.le_of_ble_eq_true rfl⟩, (hts _ (xm w_921))⟩) rfl hl.1 rfl (Nat.le_of_ble_eq_true rfl) d_M_meet_8 (fun H locs hw => ?_)
      refine W.eq (g2 := F0 m 11 ls [.int r_37]) rfl ?_
      refine lv_if_eq (tgt := 25) hx hb d_M_meet_11 (by decide) (fun _ => ?_) (fun c9 => absurd hc4 c9)
      exact w9 p e s m args below meth c A H locs ls F hw (lv_sub hl [0, 1, 2, 3, 4] rfl)
    · have k := k.2 hc4
      obtain ⟨_, u_38, ⟨r_39, rfl, k⟩, hM5⟩ := c_M_isPlace l Z x3 u_36 _ k
      by_cases hc6 : r_39 = 0
      · have k := k.1 hc6
        obtain ⟨rv, v9, hK, hle_u_38, w9⟩ := t_M_meet_J25 l Z u x0 x1 x2 x3 x4 u_38 k
        have hle_u_36 : x_le u_36 v9 := (hM5.1).tr hle_u_38
        have hle_u_22 : x_le u_22 v9 := (hM3.1).tr hle_u_36
        have hle_u : x_le u v9 := (hM1.1).tr hle_u_22
        refine ⟨rv, v9, hK, hle_u, ?_⟩
        intro p e s m args below meth c A H locs ls F hw hl
        obtain ⟨⟨hx, hb, hml, hown, hts⟩, hr, hlocks, hmn⟩ := id F
        refine lv_iload_n hx hb d_M_meet_0 rfl (lv_at hl 1 rfl) ?_
        refine xr_cS (As := [.int x1]) (rest := []) ⟨hx, hb, hml, hown, hts⟩ hw hM1 hle_u_22 (fun _ _ => ⟨callB_of 1 hts (xgood w_922) rfl rfl rfl (hts _ (xm w_8)) (hts _ (xm w_920)) ⟨by decide, by decide, by decide +kernel⟩ ⟨Nat.le_of_ble_eq_true rfl, Nat.le_of_ble_eq_true rfl⟩, (hts _ (xm w_921))⟩) rfl hl.1 rfl (Nat.le_of_ble_eq_true rfl) d_M_meet_1 (fun H locs hw => ?_)
        refine W.eq (g2 := F0 m 4 ls [.int r_23]) rfl ?_
        refine lv_if_eq (tgt := 25) hx hb d_M_meet_4 (by decide) (fun c9 => absurd c9 hc2) (fun _ => ?_)
        refine lv_iload_n hx hb d_M_meet_7 rfl (lv_at hl 2 rfl) ?_
        refine xr_cS (As := [.int x2]) (rest := []) ⟨hx, hb, hml, hown, hts⟩ hw hM3 hle_u_36 (fun _ _ => ⟨callB_of 1 hts (xgood w_922) rfl rfl rfl (hts _ (xm w_8)) (hts _ (xm w_920)) ⟨by decide, by decide, by decide +kernel⟩ ⟨Nat.le_of_ble_eq_true rfl, Nat.le_of_ble_eq_true rfl⟩, (hts _ (xm w_921))⟩) rfl hl.1 rfl (Nat.le_of_ble_eq_true rfl) d_M_meet_8 (fun H locs hw => ?_)
        refine W.eq (g2 := F0 m 11 ls [.int r_37]) rfl ?_
        refine lv_if_eq (tgt := 25) hx hb d_M_meet_11 (by decide) (fun c9 => absurd c9 hc4) (fun _ => ?_)
        refine lv_iload_n hx hb d_M_meet_14 rfl (lv_at hl 3 rfl) ?_
        refine xr_cS (As := [.int x3]) (rest := []) ⟨hx, hb, hml, hown, hts⟩ hw hM5 hle_u_38 (fun _ _ => ⟨callB_of 1 hts (xgood w_922) rfl rfl rfl (hts _ (xm w_8)) (hts _ (xm w_920)) ⟨by decide, by decide, by decide +kernel⟩ ⟨Nat.le_of_ble_eq_true rfl, Nat.le_of_ble_eq_true rfl⟩, (hts _ (xm w_921))⟩) rfl hl.1 rfl (Nat.le_of_ble_eq_true rfl) d_M_meet_15 (fun H locs hw => ?_)
        refine W.eq (g2 := F0 m 18 ls [.int r_39]) rfl ?_
        refine lv_if_eq (tgt := 25) hx hb d_M_meet_18 (by decide) (fun _ => ?_) (fun c9 => absurd hc6 c9)
        exact w9 p e s m args below meth c A H locs ls F hw (lv_sub hl [0, 1, 2, 3, 4] rfl)
      · have k := k.2 hc6
        obtain ⟨rv, v9, hK, hle_u_38, w9⟩ := t_M_meet_J26 l Z u x0 x1 x2 x3 x4 (1 : Int32) u_38 k
        have hle_u_36 : x_le u_36 v9 := (hM5.1).tr hle_u_38
        have hle_u_22 : x_le u_22 v9 := (hM3.1).tr hle_u_36
        have hle_u : x_le u v9 := (hM1.1).tr hle_u_22
        refine ⟨rv, v9, hK, hle_u, ?_⟩
        intro p e s m args below meth c A H locs ls F hw hl
        obtain ⟨⟨hx, hb, hml, hown, hts⟩, hr, hlocks, hmn⟩ := id F
        refine lv_iload_n hx hb d_M_meet_0 rfl (lv_at hl 1 rfl) ?_
        refine xr_cS (As := [.int x1]) (rest := []) ⟨hx, hb, hml, hown, hts⟩ hw hM1 hle_u_22 (fun _ _ => ⟨callB_of 1 hts (xgood w_922) rfl rfl rfl (hts _ (xm w_8)) (hts _ (xm w_920)) ⟨by decide, by decide, by decide +kernel⟩ ⟨Nat.le_of_ble_eq_true rfl, Nat.le_of_ble_eq_true rfl⟩, (hts _ (xm w_921))⟩) rfl hl.1 rfl (Nat.le_of_ble_eq_true rfl) d_M_meet_1 (fun H locs hw => ?_)
        refine W.eq (g2 := F0 m 4 ls [.int r_23]) rfl ?_
        refine lv_if_eq (tgt := 25) hx hb d_M_meet_4 (by decide) (fun c9 => absurd c9 hc2) (fun _ => ?_)
        refine lv_iload_n hx hb d_M_meet_7 rfl (lv_at hl 2 rfl) ?_
        refine xr_cS (As := [.int x2]) (rest := []) ⟨hx, hb, hml, hown, hts⟩ hw hM3 hle_u_36 (fun _ _ => ⟨callB_of 1 hts (xgood w_922) rfl rfl rfl (hts _ (xm w_8)) (hts _ (xm w_920)) ⟨by decide, by decide, by decide +kernel⟩ ⟨Nat.le_of_ble_eq_true rfl, Nat.le_of_ble_eq_true rfl⟩, (hts _ (xm w_921))⟩) rfl hl.1 rfl (Nat.le_of_ble_eq_true rfl) d_M_meet_8 (fun H locs hw => ?_)
        refine W.eq (g2 := F0 m 11 ls [.int r_37]) rfl ?_
        refine lv_if_eq (tgt := 25) hx hb d_M_meet_11 (by decide) (fun c9 => absurd c9 hc4) (fun _ => ?_)
        refine lv_iload_n hx hb d_M_meet_14 rfl (lv_at hl 3 rfl) ?_
        refine xr_cS (As := [.int x3]) (rest := []) ⟨hx, hb, hml, hown, hts⟩ hw hM5 hle_u_38 (fun _ _ => ⟨callB_of 1 hts (xgood w_922) rfl rfl rfl (hts _ (xm w_8)) (hts _ (xm w_920)) ⟨by decide, by decide, by decide +kernel⟩ ⟨Nat.le_of_ble_eq_true rfl, Nat.le_of_ble_eq_true rfl⟩, (hts _ (xm w_921))⟩) rfl hl.1 rfl (Nat.le_of_ble_eq_true rfl) d_M_meet_15 (fun H locs hw => ?_)
        refine W.eq (g2 := F0 m 18 ls [.int r_39]) rfl ?_
        refine lv_if_eq (tgt := 25) hx hb d_M_meet_18 (by decide) (fun c9 => absurd c9 hc6) (fun _ => ?_)
        refine lv_iconst (v := 1) hx hb d_M_meet_21 (by decide) ?_
        refine lv_goto (tgt := 26) hx hb d_M_meet_22 (by decide) ?_
        exact w9 p e s m args below meth c A H locs ls F hw (lv_sub hl [0, 1, 2, 3, 4] rfl)
set_option maxRecDepth 100000 in
set_option maxHeartbeats 4000000 in
theorem t_M_inputsOf_L4 (l : Launch) (Z : XZ) (u0 : PS) {Kv : Option Value → PS → Prop} {E34 : Int32 → PS → Prop} (x0 : Nat) (x1 : Int32) (hE34 : ∀ (y2 : Int32) (v : PS), E34 y2 v → XN l Z i_M_inputsOf u0 Kv v 34 [(2, .int y2)] []) : ∀ (n : Nat) (x2 : Int32) (x3 : Int32) (u : PS), p_M_inputsOf_L4 x0 x1 E34 n x2 x3 u → XN l Z i_M_inputsOf u0 Kv u 4 [(0, .ref x0), (1, .int x1), (2, .int x2), (3, .int x3)] [] := by
  intro n
  induction n with
  | zero => intro x2 x3 u k; exact False.elim k
  | succ n ih =>
    intro x2 x3 u k
    rw [p_M_inputsOf_L4] at k
    by_cases hc1 : 10 ≤ x3
    · have k := k.1 hc1
      obtain ⟨rv, v9, hK, hle_u, w9⟩ := hE34 x2 u k
      refine ⟨rv, v9, hK, hle_u, ?_⟩
      intro p e s m args below meth c A H locs ls F hw hl
      obtain ⟨⟨hx, hb, hml, hown, hts⟩, hr, hlocks, hmn⟩ := id F
      refine lv_iload_n hx hb d_M_inputsOf_4 rfl (lv_at hl 3 rfl) ?_
      refine lv_bipush (v := 10) hx hb d_M_inputsOf_5 (by decide) ?_
      refine lv_icmp_ge (tgt := 34) hx hb d_M_inputsOf_7 (by decide) (fun _ => ?_) (fun c9 => absurd hc1 c9)
      exact w9 p e s m args below meth c A H locs ls F hw (lv_sub hl [2] rfl)
    · have k := k.2 hc1
      obtain ⟨z_8, h2, k⟩ := k
      obtain ⟨z_9, h3, k⟩ := k
      obtain ⟨y4, ey4⟩ : ∃ y9 : Int32, y9 = (x2 ||| (((x1 >>> (((9 : Int32) - x3) &&& 31)) &&& (1 : Int32)) <<< (z_9 &&& 31))) := ⟨_, rfl⟩
      have k := k y4 ey4
      obtain ⟨y5, ey5⟩ : ∃ y9 : Int32, y9 = x3 + 1 := ⟨_, rfl⟩
      have k := k y5 ey5
      obtain ⟨rv, v9, hK, hle_u, w9⟩ := ih y4 y5 u k
      refine ⟨rv, v9, hK, hle_u, ?_⟩
      intro p e s m args below meth c A H locs ls F hw hl
      obtain ⟨⟨hx, hb, hml, hown, hts⟩, hr, hlocks, hmn⟩ := id F
      refine lv_iload_n hx hb d_M_inputsOf_4 rfl (lv_at hl 3 rfl) ?_
      refine lv_bipush (v := 10) hx hb d_M_inputsOf_5 (by decide) ?_
      refine lv_icmp_ge (tgt := 34) hx hb d_M_inputsOf_7 (by decide) (fun c9 => absurd c9 hc1) (fun _ => ?_)
      refine lv_iload_n hx hb d_M_inputsOf_10 rfl (lv_at hl 2 rfl) ?_
      refine lv_iload_n hx hb d_M_inputsOf_11 rfl (lv_at hl 1 rfl) ?_
      refine lv_bipush (v := 9) hx hb d_M_inputsOf_12 (by decide) ?_
      refine lv_iload_n hx hb d_M_inputsOf_14 rfl (lv_at hl 3 rfl) ?_
      refine lv_isub hx hb d_M_inputsOf_15 ?_
      refine lv_ishr hx hb d_M_inputsOf_16 ?_
      refine lv_iconst (v := 1) hx hb d_M_inputsOf_17 (by decide) ?_
      refine lv_iand hx hb d_M_inputsOf_18 ?_
      refine lv_aload_n hx hb d_M_inputsOf_19 rfl (lv_at hl 0 rfl) ?_
      refine xr_get hx hb hts (xmu uws_M) hown hw h2 rfl (by decide) (hts _ (xm w_871)) (fun _ h9 => h9) d_M_inputsOf_20 ?_
      refine lv_iload_n hx hb d_M_inputsOf_23 rfl (lv_at hl 3 rfl) ?_
      refine xr_iald hx hb hw h3 d_M_inputsOf_24 ?_
      refine lv_ishl hx hb d_M_inputsOf_25 ?_
      refine lv_ior hx hb d_M_inputsOf_26 ?_
      refine lv_istore_n (lv' := [(2, .int y4), (0, .ref x0), (1, .int x1), (3, .int x3)]) hx hb d_M_inputsOf_27 rfl hl (by decide) (by subst ey4; rfl) (fun ls hl => ?_)
      refine lv_iinc (v := y5) (lv' := [(3, .int y5), (2, .int y4), (0, .ref x0), (1, .int x1)]) hx hb d_M_inputsOf_28 hl (k := 3) rfl (by subst ey5; rfl) (by decide) rfl (fun ls hl => ?_)
      refine lv_goto (tgt := 4) hx hb d_M_inputsOf_31 (by decide) ?_
      exact w9 p e s m args below meth c A H locs ls F hw (lv_sub hl [2, 3, 1, 0] rfl)
set_option maxRecDepth 100000 in
set_option maxHeartbeats 4000000 in
theorem c_M_inputsOf (l : Launch) (Z : XZ) (x0 : Nat) (x1 : Int32) (u : PS) (K : Int32 → PS → Prop) (k : p_M_inputsOf x0 x1 u K) : ∃ (rv : Option Value) (u1 : PS), (kI K) rv u1 ∧ XMet l Z i_M_inputsOf [.ref x0, .int x1] u rv u1 := by
  refine x_met (by decide) rfl (Nat.le_of_ble_eq_true rfl) ?_
  show XN l Z i_M_inputsOf u (kI K) u 0 [(0, .ref x0), (1, .int x1)] []
  unfold p_M_inputsOf at k
  obtain ⟨n1, k⟩ := k
  have hx4 : ∀ (y2_2 : Int32) (v3 : PS), (K y2_2 v3) → XN l Z i_M_inputsOf u (kI K) v3 34 [(2, .int y2_2)] [] := by
    intro y2_2 v3 k
    have hle_v3 : x_le v3 v3 := x_le.rf v3
    refine ⟨some (.int y2_2), v3, ⟨y2_2, rfl, k⟩, hle_v3, ?_⟩
    intro p e s m args below meth c A H locs ls F hw hl
    obtain ⟨⟨hx, hb, hml, hown, hts⟩, hr, hlocks, hmn⟩ := id F
    refine lv_iload_n hx hb d_M_inputsOf_34 rfl (lv_at hl 0 rfl) ?_
    exact xr_iret F rfl hw d_M_inputsOf_35
  obtain ⟨rv, v9, hK, hle_u, w9⟩ := t_M_inputsOf_L4 l Z u x0 x1 hx4 n1 (0 : Int32) (0 : Int32) u k
  refine ⟨rv, v9, hK, hle_u, ?_⟩
  intro p e s m args below meth c A H locs ls F hw hl
  obtain ⟨⟨hx, hb, hml, hown, hts⟩, hr, hlocks, hmn⟩ := id F
  refine lv_iconst (v := 0) hx hb d_M_inputsOf_0 (by decide) ?_
  refine lv_istore_n (lv' := [(2, .int 0), (0, .ref x0), (1, .int x1)]) hx hb d_M_inputsOf_1 rfl hl (by decide) rfl (fun ls hl => ?_)
  refine lv_iconst (v := 0) hx hb d_M_inputsOf_2 (by decide) ?_
  refine lv_istore_n (lv' := [(3, .int 0), (2, .int 0), (0, .ref x0), (1, .int x1)]) hx hb d_M_inputsOf_3 rfl hl (by decide) rfl (fun ls hl => ?_)
  exact w9 p e s m args below meth c A H locs ls F hw (lv_sub hl [2, 3, 1, 0] rfl)
set_option maxRecDepth 100000 in
set_option maxHeartbeats 4000000 in
theorem t_M_pair_J73 (l : Launch) (Z : XZ) (u0 : PS) {Kv : Option Value → PS → Prop} {R : Int32 → PS → Prop} {E68 : Int32 → PS → Prop} {E83 : Int32 → PS → Prop} (x0 : Nat) (x1 : Int32) (x2 : Int32) (x3 : Int32) (u : PS) (hR : ∀ (y3 : Int32) (v : PS), R y3 v → XN l Z i_M_pair u0 Kv v 25 [(0, .ref x0), (1, .int x1), (2, .int x2), (3, .int y3)] []) (hE68 : ∀ (y4 : Int32) (v : PS), E68 y4 v → XN l Z i_M_pair u0 Kv v 68 [(4, .int y4)] []) (hE83 : ∀ (y3 : Int32) (v : PS), E83 y3 v → XN l Z i_M_pair u0 Kv v 83 [(0, .ref x0), (1, .int x1), (2, .int x2), (3, .int y3)] []) (k : (p_M_pair_J73 R E68 E83 x0 x1 x2 x3 u)) : XN l Z i_M_pair u0 Kv u 73 [(0, .ref x0), (1, .int x1), (2, .int x2), (3, .int x3)] [] := by
  unfold p_M_pair_J73 at k
  obtain ⟨y1, ey1⟩ : ∃ y9 : Int32, y9 = ((x3 + (1 : Int32)) &&& (65535 : Int32)) := ⟨_, rfl⟩
  have k := k y1 ey1
  obtain ⟨rv, v9, hK, hle_u, w9⟩ := hR y1 u k
  refine ⟨rv, v9, hK, hle_u, ?_⟩
  intro p e s m args below meth c A H locs ls F hw hl
  obtain ⟨⟨hx, hb, hml, hown, hts⟩, hr, hlocks, hmn⟩ := id F
  refine lv_iload_n hx hb d_M_pair_73 rfl (lv_at hl 3 rfl) ?_
  refine lv_iconst (v := 1) hx hb d_M_pair_74 (by decide) ?_
  refine lv_iadd hx hb d_M_pair_75 ?_
  refine lv_ldc (v := 65535) hx hb hown (hts _ (xm w_996)) d_M_pair_76 ?_
  refine lv_iand hx hb d_M_pair_78 ?_
  refine lv_istore_n (lv' := [(3, .int y1), (0, .ref x0), (1, .int x1), (2, .int x2)]) hx hb d_M_pair_79 rfl hl (by decide) (by subst ey1; rfl) (fun ls hl => ?_)
  refine lv_goto (tgt := 25) hx hb d_M_pair_80 (by decide) ?_
  exact w9 p e s m args below meth c A H locs ls F hw (lv_sub hl [1, 2, 3, 0] rfl)
set_option maxRecDepth 100000 in
set_option maxHeartbeats 4000000 in
theorem t_M_pair_L25 (l : Launch) (Z : XZ) (u0 : PS) {Kv : Option Value → PS → Prop} {E68 : Int32 → PS → Prop} {E83 : Int32 → PS → Prop} (x0 : Nat) (x1 : Int32) (x2 : Int32) (hE68 : ∀ (y4 : Int32) (v : PS), E68 y4 v → XN l Z i_M_pair u0 Kv v 68 [(4, .int y4)] []) (hE83 : ∀ (y3 : Int32) (v : PS), E83 y3 v → XN l Z i_M_pair u0 Kv v 83 [(0, .ref x0), (1, .int x1), (2, .int x2), (3, .int y3)] []) : ∀ (n : Nat) (x3 : Int32) (u : PS), p_M_pair_L25 x0 x1 x2 E68 E83 n x3 u → XN l Z i_M_pair u0 Kv u 25 [(0, .ref x0), (1, .int x1), (2, .int x2), (3, .int x3)] [] := by
  intro n
  induction n with
  | zero => intro x3 u k; exact False.elim k
  | succ n ih =>
    intro x3 u k
    rw [p_M_pair_L25] at k
    obtain ⟨z_32, h1, k⟩ := k
    obtain ⟨z_33, h2, k⟩ := k
    obtain ⟨z_34, h3, k⟩ := k
    by_cases hc4 : z_33 = z_34
    · have k := k.2 hc4
      obtain ⟨z_35, h5, k⟩ := k
      obtain ⟨z_36, h6, k⟩ := k
      obtain ⟨z_37, h7, k⟩ := k
      obtain ⟨z_38, h8, k⟩ := k
      by_cases hc9 : z_38 = x1
      · have k := k.2 hc9
        obtain ⟨z_39, h10, k⟩ := k
        obtain ⟨z_40, h11, k⟩ := k
        by_cases hc12 : z_40 = x2
        · have k := k.2 hc12
          obtain ⟨rv, v9, hK, hle_u, w9⟩ := hE68 z_36 u k
          refine ⟨rv, v9, hK, hle_u, ?_⟩
          intro p e s m args below meth c A H locs ls F hw hl
          obtain ⟨⟨hx, hb, hml, hown, hts⟩, hr, hlocks, hmn⟩ := id F
          refine lv_aload_n hx hb d_M_pair_25 rfl (lv_at hl 0 rfl) ?_
          refine xr_get hx hb hts (xmu uws_M) hown hw h1 rfl (by decide) (hts _ (xm w_877)) (fun _ h9 => h9) d_M_pair_26 ?_
          refine lv_iload_n hx hb d_M_pair_29 rfl (lv_at hl 3 rfl) ?_
          refine xr_iald hx hb hw h2 d_M_pair_30 ?_
          refine lv_aload_n hx hb d_M_pair_31 rfl (lv_at hl 0 rfl) ?_
          refine xr_get hx hb hts (xmu uws_M) hown hw h3 rfl (by decide) (hts _ (xm w_878)) (fun _ h9 => h9) d_M_pair_32 ?_
          refine lv_icmp_ne (tgt := 83) hx hb d_M_pair_35 (by decide) (fun c9 => absurd hc4 c9) (fun _ => ?_)
          refine lv_aload_n hx hb d_M_pair_38 rfl (lv_at hl 0 rfl) ?_
          refine xr_get hx hb hts (xmu uws_M) hown hw h5 rfl (by decide) (hts _ (xm w_876)) (fun _ h9 => h9) d_M_pair_39 ?_
          refine lv_iload_n hx hb d_M_pair_42 rfl (lv_at hl 3 rfl) ?_
          refine xr_iald hx hb hw h6 d_M_pair_43 ?_
          refine lv_istore (lv' := [(4, .int z_36), (0, .ref x0), (1, .int x1), (2, .int x2), (3, .int x3)]) hx hb d_M_pair_44 hl (by decide) rfl (fun ls hl => ?_)
          refine lv_aload_n hx hb d_M_pair_46 rfl (lv_at hl 1 rfl) ?_
          refine xr_get hx hb hts (xmu uws_M) hown hw h7 rfl (by decide) (hts _ (xm w_874)) (fun _ h9 => h9) d_M_pair_47 ?_
          refine lv_iload hx hb d_M_pair_50 (lv_at hl 0 rfl) ?_
          refine xr_iald hx hb hw h8 d_M_pair_52 ?_
          refine lv_iload_n hx hb d_M_pair_53 rfl (lv_at hl 2 rfl) ?_
          refine lv_icmp_ne (tgt := 73) hx hb d_M_pair_54 (by decide) (fun c9 => absurd hc9 c9) (fun _ => ?_)
          refine lv_aload_n hx hb d_M_pair_57 rfl (lv_at hl 1 rfl) ?_
          refine xr_get hx hb hts (xmu uws_M) hown hw h10 rfl (by decide) (hts _ (xm w_875)) (fun _ h9 => h9) d_M_pair_58 ?_
          refine lv_iload hx hb d_M_pair_61 (lv_at hl 0 rfl) ?_
          refine xr_iald hx hb hw h11 d_M_pair_63 ?_
          refine lv_iload_n hx hb d_M_pair_64 rfl (lv_at hl 3 rfl) ?_
          refine lv_icmp_ne (tgt := 73) hx hb d_M_pair_65 (by decide) (fun c9 => absurd hc12 c9) (fun _ => ?_)
          exact w9 p e s m args below meth c A H locs ls F hw (lv_sub hl [0] rfl)
        · have k := k.1 hc12
          obtain ⟨rv, v9, hK, hle_u, w9⟩ := t_M_pair_J73 l Z u0 x0 x1 x2 x3 u ih hE68 hE83 k
          refine ⟨rv, v9, hK, hle_u, ?_⟩
          intro p e s m args below meth c A H locs ls F hw hl
          obtain ⟨⟨hx, hb, hml, hown, hts⟩, hr, hlocks, hmn⟩ := id F
          refine lv_aload_n hx hb d_M_pair_25 rfl (lv_at hl 0 rfl) ?_
          refine xr_get hx hb hts (xmu uws_M) hown hw h1 rfl (by decide) (hts _ (xm w_877)) (fun _ h9 => h9) d_M_pair_26 ?_
          refine lv_iload_n hx hb d_M_pair_29 rfl (lv_at hl 3 rfl) ?_
          refine xr_iald hx hb hw h2 d_M_pair_30 ?_
          refine lv_aload_n hx hb d_M_pair_31 rfl (lv_at hl 0 rfl) ?_
          refine xr_get hx hb hts (xmu uws_M) hown hw h3 rfl (by decide) (hts _ (xm w_878)) (fun _ h9 => h9) d_M_pair_32 ?_
          refine lv_icmp_ne (tgt := 83) hx hb d_M_pair_35 (by decide) (fun c9 => absurd hc4 c9) (fun _ => ?_)
          refine lv_aload_n hx hb d_M_pair_38 rfl (lv_at hl 0 rfl) ?_
          refine xr_get hx hb hts (xmu uws_M) hown hw h5 rfl (by decide) (hts _ (xm w_876)) (fun _ h9 => h9) d_M_pair_39 ?_
          refine lv_iload_n hx hb d_M_pair_42 rfl (lv_at hl 3 rfl) ?_
          refine xr_iald hx hb hw h6 d_M_pair_43 ?_
          refine lv_istore (lv' := [(4, .int z_36), (0, .ref x0), (1, .int x1), (2, .int x2), (3, .int x3)]) hx hb d_M_pair_44 hl (by decide) rfl (fun ls hl => ?_)
          refine lv_aload_n hx hb d_M_pair_46 rfl (lv_at hl 1 rfl) ?_
          refine xr_get hx hb hts (xmu uws_M) hown hw h7 rfl (by decide) (hts _ (xm w_874)) (fun _ h9 => h9) d_M_pair_47 ?_
          refine lv_iload hx hb d_M_pair_50 (lv_at hl 0 rfl) ?_
          refine xr_iald hx hb hw h8 d_M_pair_52 ?_
          refine lv_iload_n hx hb d_M_pair_53 rfl (lv_at hl 2 rfl) ?_
          refine lv_icmp_ne (tgt := 73) hx hb d_M_pair_54 (by decide) (fun c9 => absurd hc9 c9) (fun _ => ?_)
          refine lv_aload_n hx hb d_M_pair_57 rfl (lv_at hl 1 rfl) ?_
          refine xr_get hx hb hts (xmu uws_M) hown hw h10 rfl (by decide) (hts _ (xm w_875)) (fun _ h9 => h9) d_M_pair_58 ?_
          refine lv_iload hx hb d_M_pair_61 (lv_at hl 0 rfl) ?_
          refine xr_iald hx hb hw h11 d_M_pair_63 ?_
          refine lv_iload_n hx hb d_M_pair_64 rfl (lv_at hl 3 rfl) ?_
          refine lv_icmp_ne (tgt := 73) hx hb d_M_pair_65 (by decide) (fun _ => ?_) (fun c9 => absurd c9 hc12)
          exact w9 p e s m args below meth c A H locs ls F hw (lv_sub hl [1, 2, 3, 4] rfl)
      · have k := k.1 hc9
        obtain ⟨rv, v9, hK, hle_u, w9⟩ := t_M_pair_J73 l Z u0 x0 x1 x2 x3 u ih hE68 hE83 k
        refine ⟨rv, v9, hK, hle_u, ?_⟩
        intro p e s m args below meth c A H locs ls F hw hl
        obtain ⟨⟨hx, hb, hml, hown, hts⟩, hr, hlocks, hmn⟩ := id F
        refine lv_aload_n hx hb d_M_pair_25 rfl (lv_at hl 0 rfl) ?_
        refine xr_get hx hb hts (xmu uws_M) hown hw h1 rfl (by decide) (hts _ (xm w_877)) (fun _ h9 => h9) d_M_pair_26 ?_
        refine lv_iload_n hx hb d_M_pair_29 rfl (lv_at hl 3 rfl) ?_
        refine xr_iald hx hb hw h2 d_M_pair_30 ?_
        refine lv_aload_n hx hb d_M_pair_31 rfl (lv_at hl 0 rfl) ?_
        refine xr_get hx hb hts (xmu uws_M) hown hw h3 rfl (by decide) (hts _ (xm w_878)) (fun _ h9 => h9) d_M_pair_32 ?_
        refine lv_icmp_ne (tgt := 83) hx hb d_M_pair_35 (by decide) (fun c9 => absurd hc4 c9) (fun _ => ?_)
        refine lv_aload_n hx hb d_M_pair_38 rfl (lv_at hl 0 rfl) ?_
        refine xr_get hx hb hts (xmu uws_M) hown hw h5 rfl (by decide) (hts _ (xm w_876)) (fun _ h9 => h9) d_M_pair_39 ?_
        refine lv_iload_n hx hb d_M_pair_42 rfl (lv_at hl 3 rfl) ?_
        refine xr_iald hx hb hw h6 d_M_pair_43 ?_
        refine lv_istore (lv' := [(4, .int z_36), (0, .ref x0), (1, .int x1), (2, .int x2), (3, .int x3)]) hx hb d_M_pair_44 hl (by decide) rfl (fun ls hl => ?_)
        refine lv_aload_n hx hb d_M_pair_46 rfl (lv_at hl 1 rfl) ?_
        refine xr_get hx hb hts (xmu uws_M) hown hw h7 rfl (by decide) (hts _ (xm w_874)) (fun _ h9 => h9) d_M_pair_47 ?_
        refine lv_iload hx hb d_M_pair_50 (lv_at hl 0 rfl) ?_
        refine xr_iald hx hb hw h8 d_M_pair_52 ?_
        refine lv_iload_n hx hb d_M_pair_53 rfl (lv_at hl 2 rfl) ?_
        refine lv_icmp_ne (tgt := 73) hx hb d_M_pair_54 (by decide) (fun _ => ?_) (fun c9 => absurd c9 hc9)
        exact w9 p e s m args below meth c A H locs ls F hw (lv_sub hl [1, 2, 3, 4] rfl)
    · have k := k.1 hc4
      obtain ⟨rv, v9, hK, hle_u, w9⟩ := hE83 x3 u k
      refine ⟨rv, v9, hK, hle_u, ?_⟩
      intro p e s m args below meth c A H locs ls F hw hl
      obtain ⟨⟨hx, hb, hml, hown, hts⟩, hr, hlocks, hmn⟩ := id F
      refine lv_aload_n hx hb d_M_pair_25 rfl (lv_at hl 0 rfl) ?_
      refine xr_get hx hb hts (xmu uws_M) hown hw h1 rfl (by decide) (hts _ (xm w_877)) (fun _ h9 => h9) d_M_pair_26 ?_
      refine lv_iload_n hx hb d_M_pair_29 rfl (lv_at hl 3 rfl) ?_
      refine xr_iald hx hb hw h2 d_M_pair_30 ?_
      refine lv_aload_n hx hb d_M_pair_31 rfl (lv_at hl 0 rfl) ?_
      refine xr_get hx hb hts (xmu uws_M) hown hw h3 rfl (by decide) (hts _ (xm w_878)) (fun _ h9 => h9) d_M_pair_32 ?_
      refine lv_icmp_ne (tgt := 83) hx hb d_M_pair_35 (by decide) (fun _ => ?_) (fun c9 => absurd c9 hc4)
      exact w9 p e s m args below meth c A H locs ls F hw (lv_sub hl [0, 1, 2, 3] rfl)
set_option maxRecDepth 100000 in
set_option maxHeartbeats 4000000 in
theorem t_M_pair_J68 (l : Launch) (Z : XZ) (u0 : PS) {K : Int32 → PS → Prop} (x4 : Int32) (u : PS) (k : (p_M_pair_J68 K x4 u)) : XN l Z i_M_pair u0 (kI K) u 68 [(4, .int x4)] [] := by
  unfold p_M_pair_J68 at k
  have hle_u : x_le u u := x_le.rf u
  refine ⟨some (.int ((2 : Int32) + x4)), u, ⟨((2 : Int32) + x4), rfl, k⟩, hle_u, ?_⟩
  intro p e s m args below meth c A H locs ls F hw hl
  obtain ⟨⟨hx, hb, hml, hown, hts⟩, hr, hlocks, hmn⟩ := id F
  refine lv_iconst (v := 2) hx hb d_M_pair_68 (by decide) ?_
  refine lv_iload hx hb d_M_pair_69 (lv_at hl 0 rfl) ?_
  refine lv_iadd hx hb d_M_pair_71 ?_
  exact xr_iret F rfl hw d_M_pair_72
set_option maxRecDepth 100000 in
set_option maxHeartbeats 4000000 in
theorem t_M_pair_J83 (l : Launch) (Z : XZ) (u0 : PS) {K : Int32 → PS → Prop} (x0 : Nat) (x1 : Int32) (x2 : Int32) (x3 : Int32) (u : PS) (k : (p_M_pair_J83 K x0 x1 x2 x3 u)) : XN l Z i_M_pair u0 (kI K) u 83 [(0, .ref x0), (1, .int x1), (2, .int x2), (3, .int x3)] [] := by
  unfold p_M_pair_J83 at k
  obtain ⟨z_41, h1, k⟩ := k
  obtain ⟨z_42, h2, k⟩ := k
  obtain ⟨u_43, h3, k⟩ := k
  obtain ⟨z_44, h4, k⟩ := k
  obtain ⟨z_45, h5, k⟩ := k
  obtain ⟨u_46, h6, k⟩ := k
  obtain ⟨z_47, h7, k⟩ := k
  obtain ⟨z_48, h8, k⟩ := k
  obtain ⟨u_49, h9, k⟩ := k
  obtain ⟨z_50, h10, k⟩ := k
  obtain ⟨z_51, h11, k⟩ := k
  obtain ⟨u_52, h12, k⟩ := k
  obtain ⟨z_53, h13, k⟩ := k
  obtain ⟨u_54, h14, k⟩ := k
  obtain ⟨z_55, h15, k⟩ := k
  have hle_u_54 : x_le u_54 u_54 := x_le.rf u_54
  have hle_u_52 : x_le u_52 u_54 := (h14.le).tr hle_u_54
  have hle_u_49 : x_le u_49 u_54 := (h12.le).tr hle_u_52
  have hle_u_46 : x_le u_46 u_54 := (h9.le).tr hle_u_49
  have hle_u_43 : x_le u_43 u_54 := (h6.le).tr hle_u_46
  have hle_u : x_le u u_54 := (h3.le).tr hle_u_43
  refine ⟨some (.int ((1 : Int32) + z_55)), u_54, ⟨((1 : Int32) + z_55), rfl, k⟩, hle_u, ?_⟩
  intro p e s m args below meth c A H locs ls F hw hl
  obtain ⟨⟨hx, hb, hml, hown, hts⟩, hr, hlocks, hmn⟩ := id F
  refine lv_aload_n hx hb d_M_pair_83 rfl (lv_at hl 0 rfl) ?_
  refine xr_get hx hb hts (xmu uws_M) hown hw h1 rfl (by decide) (hts _ (xm w_877)) (fun _ h9 => h9) d_M_pair_84 ?_
  refine lv_iload_n hx hb d_M_pair_87 rfl (lv_at hl 3 rfl) ?_
  refine lv_aload_n hx hb d_M_pair_88 rfl (lv_at hl 0 rfl) ?_
  refine xr_get hx hb hts (xmu uws_M) hown hw h2 rfl (by decide) (hts _ (xm w_878)) (fun _ h9 => h9) d_M_pair_89 ?_
  refine xr_iast hx hb hw h3 d_M_pair_92 (fun H locs hw => ?_)
  refine lv_aload_n hx hb d_M_pair_93 rfl (lv_at hl 0 rfl) ?_
  refine xr_get hx hb hts (xmu uws_M) hown hw h4 rfl (by decide) (hts _ (xm w_876)) (fun _ h9 => h9) d_M_pair_94 ?_
  refine lv_iload_n hx hb d_M_pair_97 rfl (lv_at hl 3 rfl) ?_
  refine lv_aload_n hx hb d_M_pair_98 rfl (lv_at hl 0 rfl) ?_
  refine xr_get hx hb hts (xmu uws_M) hown hw h5 rfl (by decide) (hts _ (xm w_873)) (fun _ h9 => h9) d_M_pair_99 ?_
  refine xr_iast hx hb hw h6 d_M_pair_102 (fun H locs hw => ?_)
  refine lv_aload_n hx hb d_M_pair_103 rfl (lv_at hl 0 rfl) ?_
  refine xr_get hx hb hts (xmu uws_M) hown hw h7 rfl (by decide) (hts _ (xm w_874)) (fun _ h9 => h9) d_M_pair_104 ?_
  refine lv_aload_n hx hb d_M_pair_107 rfl (lv_at hl 0 rfl) ?_
  refine xr_get hx hb hts (xmu uws_M) hown hw h8 rfl (by decide) (hts _ (xm w_873)) (fun _ h9 => h9) d_M_pair_108 ?_
  refine lv_iload_n hx hb d_M_pair_111 rfl (lv_at hl 1 rfl) ?_
  refine xr_iast hx hb hw h9 d_M_pair_112 (fun H locs hw => ?_)
  refine lv_aload_n hx hb d_M_pair_113 rfl (lv_at hl 0 rfl) ?_
  refine xr_get hx hb hts (xmu uws_M) hown hw h10 rfl (by decide) (hts _ (xm w_875)) (fun _ h9 => h9) d_M_pair_114 ?_
  refine lv_aload_n hx hb d_M_pair_117 rfl (lv_at hl 0 rfl) ?_
  refine xr_get hx hb hts (xmu uws_M) hown hw h11 rfl (by decide) (hts _ (xm w_873)) (fun _ h9 => h9) d_M_pair_118 ?_
  refine lv_iload_n hx hb d_M_pair_121 rfl (lv_at hl 2 rfl) ?_
  refine xr_iast hx hb hw h12 d_M_pair_122 (fun H locs hw => ?_)
  refine lv_aload_n hx hb d_M_pair_123 rfl (lv_at hl 0 rfl) ?_
  refine lv_dup hx hb d_M_pair_124 rfl ?_
  refine xr_get hx hb hts (xmu uws_M) hown hw h13 rfl (by decide) (hts _ (xm w_873)) (fun _ h9 => h9) d_M_pair_125 ?_
  refine lv_iconst (v := 1) hx hb d_M_pair_128 (by decide) ?_
  refine lv_iadd hx hb d_M_pair_129 ?_
  refine xr_put (ty := .int) hx hb hts (xmu uws_M) tyc_M tyc_M_ok nmc_M hown hw h14 rfl (by decide) (hts _ (xm w_873)) (fun _ h9 => h9) rfl (by decide +kernel) rfl rfl d_M_pair_130 (fun H locs hw => ?_)
  refine lv_iconst (v := 1) hx hb d_M_pair_133 (by decide) ?_
  refine lv_aload_n hx hb d_M_pair_134 rfl (lv_at hl 0 rfl) ?_
  refine xr_get hx hb hts (xmu uws_M) hown hw h15 rfl (by decide) (hts _ (xm w_873)) (fun _ h9 => h9) d_M_pair_135 ?_
  refine lv_iadd hx hb d_M_pair_138 ?_
  exact xr_iret F rfl hw d_M_pair_139
set_option maxRecDepth 100000 in
set_option maxHeartbeats 4000000 in
theorem c_M_pair (l : Launch) (Z : XZ) (x0 : Nat) (x1 : Int32) (x2 : Int32) (u : PS) (K : Int32 → PS → Prop) (k : p_M_pair x0 x1 x2 u K) : ∃ (rv : Option Value) (u1 : PS), (kI K) rv u1 ∧ XMet l Z i_M_pair [.ref x0, .int x1, .int x2] u rv u1 := by
  refine x_met (by decide) rfl (Nat.le_of_ble_eq_true rfl) ?_
  show XN l Z i_M_pair u (kI K) u 0 [(0, .ref x0), (1, .int x1), (2, .int x2)] []
  unfold p_M_pair at k
  by_cases hc1 : x1 = x2
  · have k := k.2 hc1
    have hle_u : x_le u u := x_le.rf u
    refine ⟨some (.int x1), u, ⟨x1, rfl, k⟩, hle_u, ?_⟩
    intro p e s m args below meth c A H locs ls F hw hl
    obtain ⟨⟨hx, hb, hml, hown, hts⟩, hr, hlocks, hmn⟩ := id F
    refine lv_iload_n hx hb d_M_pair_0 rfl (lv_at hl 1 rfl) ?_
    refine lv_iload_n hx hb d_M_pair_1 rfl (lv_at hl 2 rfl) ?_
    refine lv_icmp_ne (tgt := 7) hx hb d_M_pair_2 (by decide) (fun c9 => absurd hc1 c9) (fun _ => ?_)
    refine lv_iload_n hx hb d_M_pair_5 rfl (lv_at hl 1 rfl) ?_
    exact xr_iret F rfl hw d_M_pair_6
  · have k := k.1 hc1
    obtain ⟨y2, ey2⟩ : ∃ y9 : Int32, y9 = ((((x1 * (31 : Int32)) + (x2 * (1009 : Int32))) ^^^ (x1 >>> ((3 : Int32) &&& 31))) &&& (65535 : Int32)) := ⟨_, rfl⟩
    have k := k y2 ey2
    obtain ⟨n3, k⟩ := k
    have hx6 : ∀ (y4_4 : Int32) (v5 : PS), (p_M_pair_J68 K y4_4 v5) → XN l Z i_M_pair u (kI K) v5 68 [(4, .int y4_4)] [] := by
      intro y4_4 v5 k
      obtain ⟨rv, v9, hK, hle_v5, w9⟩ := t_M_pair_J68 l Z u y4_4 v5 k
      refine ⟨rv, v9, hK, hle_v5, ?_⟩
      intro p e s m args below meth c A H locs ls F hw hl
      obtain ⟨⟨hx, hb, hml, hown, hts⟩, hr, hlocks, hmn⟩ := id F
      exact w9 p e s m args below meth c A H locs ls F hw (lv_sub hl [0] rfl)
    have hx9 : ∀ (y3_7 : Int32) (v8 : PS), (p_M_pair_J83 K x0 x1 x2 y3_7 v8) → XN l Z i_M_pair u (kI K) v8 83 [(0, .ref x0), (1, .int x1), (2, .int x2), (3, .int y3_7)] [] := by
      intro y3_7 v8 k
      obtain ⟨rv, v9, hK, hle_v8, w9⟩ := t_M_pair_J83 l Z u x0 x1 x2 y3_7 v8 k
      refine ⟨rv, v9, hK, hle_v8, ?_⟩
      intro p e s m args below meth c A H locs ls F hw hl
      obtain ⟨⟨hx, hb, hml, hown, hts⟩, hr, hlocks, hmn⟩ := id F
      exact w9 p e s m args below meth c A H locs ls F hw (lv_sub hl [0, 1, 2, 3] rfl)
    obtain ⟨rv, v9, hK, hle_u, w9⟩ := t_M_pair_L25 l Z u x0 x1 x2 hx6 hx9 n3 y2 u k
    refine ⟨rv, v9, hK, hle_u, ?_⟩
    intro p e s m args below meth c A H locs ls F hw hl
    obtain ⟨⟨hx, hb, hml, hown, hts⟩, hr, hlocks, hmn⟩ := id F
    refine lv_iload_n hx hb d_M_pair_0 rfl (lv_at hl 1 rfl) ?_
    refine lv_iload_n hx hb d_M_pair_1 rfl (lv_at hl 2 rfl) ?_
    refine lv_icmp_ne (tgt := 7) hx hb d_M_pair_2 (by decide) (fun _ => ?_) (fun c9 => absurd c9 hc1)
    refine lv_iload_n hx hb d_M_pair_7 rfl (lv_at hl 1 rfl) ?_
    refine lv_bipush (v := 31) hx hb d_M_pair_8 (by decide) ?_
    refine lv_imul hx hb d_M_pair_10 ?_
    refine lv_iload_n hx hb d_M_pair_11 rfl (lv_at hl 2 rfl) ?_
    refine lv_sipush (v := 1009) hx hb d_M_pair_12 (by decide) ?_
    refine lv_imul hx hb d_M_pair_15 ?_
    refine lv_iadd hx hb d_M_pair_16 ?_
    refine lv_iload_n hx hb d_M_pair_17 rfl (lv_at hl 1 rfl) ?_
    refine lv_iconst (v := 3) hx hb d_M_pair_18 (by decide) ?_
    refine lv_ishr hx hb d_M_pair_19 ?_
    refine lv_ixor hx hb d_M_pair_20 ?_
    refine lv_ldc (v := 65535) hx hb hown (hts _ (xm w_996)) d_M_pair_21 ?_
    refine lv_iand hx hb d_M_pair_23 ?_
    refine lv_istore_n (lv' := [(3, .int y2), (0, .ref x0), (1, .int x1), (2, .int x2)]) hx hb d_M_pair_24 rfl hl (by decide) (by subst ey2; rfl) (fun ls hl => ?_)
    exact w9 p e s m args below meth c A H locs ls F hw (lv_sub hl [1, 2, 3, 0] rfl)
set_option maxRecDepth 100000 in
set_option maxHeartbeats 4000000 in
theorem t_M_countQuestions_J65 (l : Launch) (Z : XZ) (u0 : PS) {Kv : Option Value → PS → Prop} {R : Int32 → PS → Prop} {E72 : PS → Prop} (x0 : Nat) (x1 : Int32) (x3 : Int32) (x4 : Int32) (x5 : Int32) (x6 : Int32) (s0 : Nat) (s1 : Int32) (s2 : Int32) (u : PS) (hR : ∀ (y6 : Int32) (v : PS), R y6 v → XN l Z i_M_countQuestions u0 Kv v 28 [(0, .ref x0), (1, .int x1), (3, .int x3), (4, .int x4), (5, .int x5), (6, .int y6)] []) (hE72 : ∀ (v : PS), E72 v → XN l Z i_M_countQuestions u0 Kv v 72 [(0, .ref x0), (1, .int x1), (3, .int x3), (4, .int x4)] []) (k : (p_M_countQuestions_J65 R E72 x0 x1 x3 x4 x5 x6 s0 s1 s2 u)) : XN l Z i_M_countQuestions u0 Kv u 65 [(0, .ref x0), (1, .int x1), (3, .int x3), (4, .int x4), (5, .int x5), (6, .int x6)] [.int s2, .int s1, .ref s0] := by
  unfold p_M_countQuestions_J65 at k
  obtain ⟨u_47, h1, k⟩ := k
  obtain ⟨y2, ey2⟩ : ∃ y9 : Int32, y9 = x6 + 1 := ⟨_, rfl⟩
  have k := k y2 ey2
  obtain ⟨rv, v9, hK, hle_u_47, w9⟩ := hR y2 u_47 k
  have hle_u : x_le u v9 := (h1.le).tr hle_u_47
  refine ⟨rv, v9, hK, hle_u, ?_⟩
  intro p e s m args below meth c A H locs ls F hw hl
  obtain ⟨⟨hx, hb, hml, hown, hts⟩, hr, hlocks, hmn⟩ := id F
  refine xr_iast hx hb hw h1 d_M_countQuestions_65 (fun H locs hw => ?_)
  refine lv_iinc (v := y2) (lv' := [(6, .int y2), (0, .ref x0), (1, .int x1), (3, .int x3), (4, .int x4), (5, .int x5)]) hx hb d_M_countQuestions_66 hl (k := 5) rfl (by subst ey2; rfl) (by decide) rfl (fun ls hl => ?_)
  refine lv_goto (tgt := 28) hx hb d_M_countQuestions_69 (by decide) ?_
  exact w9 p e s m args below meth c A H locs ls F hw (lv_sub hl [1, 2, 3, 4, 5, 0] rfl)
set_option maxRecDepth 100000 in
set_option maxHeartbeats 4000000 in
theorem t_M_countQuestions_L28 (l : Launch) (Z : XZ) (u0 : PS) {Kv : Option Value → PS → Prop} {E72 : PS → Prop} (x0 : Nat) (x1 : Int32) (x3 : Int32) (x4 : Int32) (x5 : Int32) (hE72 : ∀ (v : PS), E72 v → XN l Z i_M_countQuestions u0 Kv v 72 [(0, .ref x0), (1, .int x1), (3, .int x3), (4, .int x4)] []) : ∀ (n : Nat) (x6 : Int32) (u : PS), p_M_countQuestions_L28 x0 x1 x3 x4 x5 E72 n x6 u → XN l Z i_M_countQuestions u0 Kv u 28 [(0, .ref x0), (1, .int x1), (3, .int x3), (4, .int x4), (5, .int x5), (6, .int x6)] [] := by
  intro n
  induction n with
  | zero => intro x6 u k; exact False.elim k
  | succ n ih =>
    intro x6 u k
    rw [p_M_countQuestions_L28] at k
    by_cases hc1 : x3 ≤ x6
    · have k := k.1 hc1
      obtain ⟨rv, v9, hK, hle_u, w9⟩ := hE72 u k
      refine ⟨rv, v9, hK, hle_u, ?_⟩
      intro p e s m args below meth c A H locs ls F hw hl
      obtain ⟨⟨hx, hb, hml, hown, hts⟩, hr, hlocks, hmn⟩ := id F
      refine lv_iload hx hb d_M_countQuestions_28 (lv_at hl 5 rfl) ?_
      refine lv_iload_n hx hb d_M_countQuestions_30 rfl (lv_at hl 2 rfl) ?_
      refine lv_icmp_ge (tgt := 72) hx hb d_M_countQuestions_31 (by decide) (fun _ => ?_) (fun c9 => absurd hc1 c9)
      exact w9 p e s m args below meth c A H locs ls F hw (lv_sub hl [0, 1, 2, 3] rfl)
    · have k := k.2 hc1
      obtain ⟨z_44, h2, k⟩ := k
      obtain ⟨h4, k⟩ := k
      obtain ⟨_, u_45, ⟨r_46, rfl, k⟩, hM3⟩ := c_M_is l Z x0 (x1 + x6) x5 u _ k
      by_cases hc5 : r_46 = 0
      · have k := k.1 hc5
        obtain ⟨rv, v9, hK, hle_u_45, w9⟩ := t_M_countQuestions_J65 l Z u0 x0 x1 x3 x4 x5 x6 z_44 (((1024 : Int32) * x6) + x4) (0 : Int32) u_45 ih hE72 k
        have hle_u : x_le u v9 := (hM3.1).tr hle_u_45
        refine ⟨rv, v9, hK, hle_u, ?_⟩
        intro p e s m args below meth c A H locs ls F hw hl
        obtain ⟨⟨hx, hb, hml, hown, hts⟩, hr, hlocks, hmn⟩ := id F
        refine lv_iload hx hb d_M_countQuestions_28 (lv_at hl 5 rfl) ?_
        refine lv_iload_n hx hb d_M_countQuestions_30 rfl (lv_at hl 2 rfl) ?_
        refine lv_icmp_ge (tgt := 72) hx hb d_M_countQuestions_31 (by decide) (fun c9 => absurd c9 hc1) (fun _ => ?_)
        refine lv_aload_n hx hb d_M_countQuestions_34 rfl (lv_at hl 0 rfl) ?_
        refine xr_get hx hb hts (xmu uws_M) hown hw h2 rfl (by decide) (hts _ (xm w_872)) (fun _ h9 => h9) d_M_countQuestions_35 ?_
        refine lv_sipush (v := 1024) hx hb d_M_countQuestions_38 (by decide) ?_
        refine lv_iload hx hb d_M_countQuestions_41 (lv_at hl 5 rfl) ?_
        refine lv_imul hx hb d_M_countQuestions_43 ?_
        refine lv_iload hx hb d_M_countQuestions_44 (lv_at hl 3 rfl) ?_
        refine lv_iadd hx hb d_M_countQuestions_46 ?_
        refine lv_aload_n hx hb d_M_countQuestions_47 rfl (lv_at hl 0 rfl) ?_
        refine lv_iload_n hx hb d_M_countQuestions_48 rfl (lv_at hl 1 rfl) ?_
        refine lv_iload hx hb d_M_countQuestions_49 (lv_at hl 5 rfl) ?_
        refine lv_iadd hx hb d_M_countQuestions_51 ?_
        refine lv_iload hx hb d_M_countQuestions_52 (lv_at hl 4 rfl) ?_
        refine xr_cV (As := [.int (x1 + x6), .int x5]) (rest := [.int (((1024 : Int32) * x6) + x4), .ref z_44]) ⟨hx, hb, hml, hown, hts⟩ hw hM3 hle_u_45 (fun _ _ => ⟨callB_of 2 hts (xgood w_944) rfl rfl rfl (hts _ (xm w_8)) (hts _ (xm w_941)) ⟨by decide, by decide, by decide +kernel⟩ ⟨Nat.le_of_ble_eq_true rfl, Nat.le_of_ble_eq_true rfl⟩, (hts _ (xm w_943)), (hts _ (xm wp_39))⟩) (qc := (R_M, F_M, 14)) rfl rfl h4 rfl hl.1 rfl (Nat.le_of_ble_eq_true rfl) d_M_countQuestions_54 (fun H locs hw => ?_)
        refine W.eq (g2 := F0 m 57 ls [.int r_46, .int (((1024 : Int32) * x6) + x4), .ref z_44]) rfl ?_
        refine lv_if_eq (tgt := 64) hx hb d_M_countQuestions_57 (by decide) (fun _ => ?_) (fun c9 => absurd hc5 c9)
        refine lv_iconst (v := 0) hx hb d_M_countQuestions_64 (by decide) ?_
        exact w9 p e s m args below meth c A H locs ls F hw (lv_sub hl [0, 1, 2, 3, 4, 5] rfl)
      · have k := k.2 hc5
        obtain ⟨rv, v9, hK, hle_u_45, w9⟩ := t_M_countQuestions_J65 l Z u0 x0 x1 x3 x4 x5 x6 z_44 (((1024 : Int32) * x6) + x4) (1 : Int32) u_45 ih hE72 k
        have hle_u : x_le u v9 := (hM3.1).tr hle_u_45
        refine ⟨rv, v9, hK, hle_u, ?_⟩
        intro p e s m args below meth c A H locs ls F hw hl
        obtain ⟨⟨hx, hb, hml, hown, hts⟩, hr, hlocks, hmn⟩ := id F
        refine lv_iload hx hb d_M_countQuestions_28 (lv_at hl 5 rfl) ?_
        refine lv_iload_n hx hb d_M_countQuestions_30 rfl (lv_at hl 2 rfl) ?_
        refine lv_icmp_ge (tgt := 72) hx hb d_M_countQuestions_31 (by decide) (fun c9 => absurd c9 hc1) (fun _ => ?_)
        refine lv_aload_n hx hb d_M_countQuestions_34 rfl (lv_at hl 0 rfl) ?_
        refine xr_get hx hb hts (xmu uws_M) hown hw h2 rfl (by decide) (hts _ (xm w_872)) (fun _ h9 => h9) d_M_countQuestions_35 ?_
        refine lv_sipush (v := 1024) hx hb d_M_countQuestions_38 (by decide) ?_
        refine lv_iload hx hb d_M_countQuestions_41 (lv_at hl 5 rfl) ?_
        refine lv_imul hx hb d_M_countQuestions_43 ?_
        refine lv_iload hx hb d_M_countQuestions_44 (lv_at hl 3 rfl) ?_
        refine lv_iadd hx hb d_M_countQuestions_46 ?_
        refine lv_aload_n hx hb d_M_countQuestions_47 rfl (lv_at hl 0 rfl) ?_
        refine lv_iload_n hx hb d_M_countQuestions_48 rfl (lv_at hl 1 rfl) ?_
        refine lv_iload hx hb d_M_countQuestions_49 (lv_at hl 5 rfl) ?_
        refine lv_iadd hx hb d_M_countQuestions_51 ?_
        refine lv_iload hx hb d_M_countQuestions_52 (lv_at hl 4 rfl) ?_
        refine xr_cV (As := [.int (x1 + x6), .int x5]) (rest := [.int (((1024 : Int32) * x6) + x4), .ref z_44]) ⟨hx, hb, hml, hown, hts⟩ hw hM3 hle_u_45 (fun _ _ => ⟨callB_of 2 hts (xgood w_944) rfl rfl rfl (hts _ (xm w_8)) (hts _ (xm w_941)) ⟨by decide, by decide, by decide +kernel⟩ ⟨Nat.le_of_ble_eq_true rfl, Nat.le_of_ble_eq_true rfl⟩, (hts _ (xm w_943)), (hts _ (xm wp_39))⟩) (qc := (R_M, F_M, 14)) rfl rfl h4 rfl hl.1 rfl (Nat.le_of_ble_eq_true rfl) d_M_countQuestions_54 (fun H locs hw => ?_)
        refine W.eq (g2 := F0 m 57 ls [.int r_46, .int (((1024 : Int32) * x6) + x4), .ref z_44]) rfl ?_
        refine lv_if_eq (tgt := 64) hx hb d_M_countQuestions_57 (by decide) (fun c9 => absurd c9 hc5) (fun _ => ?_)
        refine lv_iconst (v := 1) hx hb d_M_countQuestions_60 (by decide) ?_
        refine lv_goto (tgt := 65) hx hb d_M_countQuestions_61 (by decide) ?_
        exact w9 p e s m args below meth c A H locs ls F hw (lv_sub hl [0, 1, 2, 3, 4, 5] rfl)
set_option maxRecDepth 100000 in
set_option maxHeartbeats 4000000 in
theorem t_M_countQuestions_J72 (l : Launch) (Z : XZ) (u0 : PS) {Kv : Option Value → PS → Prop} {R : Int32 → PS → Prop} {E78 : PS → Prop} (x0 : Nat) (x1 : Int32) (x3 : Int32) (x4 : Int32) (u : PS) (hR : ∀ (y4 : Int32) (v : PS), R y4 v → XN l Z i_M_countQuestions u0 Kv v 9 [(0, .ref x0), (1, .int x1), (3, .int x3), (4, .int y4)] []) (hE78 : ∀ (v : PS), E78 v → XN l Z i_M_countQuestions u0 Kv v 78 [(0, .ref x0), (3, .int x3)] []) (k : (p_M_countQuestions_J72 R E78 x0 x1 x3 x4 u)) : XN l Z i_M_countQuestions u0 Kv u 72 [(0, .ref x0), (1, .int x1), (3, .int x3), (4, .int x4)] [] := by
  unfold p_M_countQuestions_J72 at k
  obtain ⟨y1, ey1⟩ : ∃ y9 : Int32, y9 = x4 + 1 := ⟨_, rfl⟩
  have k := k y1 ey1
  obtain ⟨rv, v9, hK, hle_u, w9⟩ := hR y1 u k
  refine ⟨rv, v9, hK, hle_u, ?_⟩
  intro p e s m args below meth c A H locs ls F hw hl
  obtain ⟨⟨hx, hb, hml, hown, hts⟩, hr, hlocks, hmn⟩ := id F
  refine lv_iinc (v := y1) (lv' := [(4, .int y1), (0, .ref x0), (1, .int x1), (3, .int x3)]) hx hb d_M_countQuestions_72 hl (k := 3) rfl (by subst ey1; rfl) (by decide) rfl (fun ls hl => ?_)
  refine lv_goto (tgt := 9) hx hb d_M_countQuestions_75 (by decide) ?_
  exact w9 p e s m args below meth c A H locs ls F hw (lv_sub hl [1, 2, 3, 0] rfl)
set_option maxRecDepth 100000 in
set_option maxHeartbeats 4000000 in
theorem t_M_countQuestions_L9 (l : Launch) (Z : XZ) (u0 : PS) {Kv : Option Value → PS → Prop} {E78 : PS → Prop} (x0 : Nat) (x1 : Int32) (x3 : Int32) (hE78 : ∀ (v : PS), E78 v → XN l Z i_M_countQuestions u0 Kv v 78 [(0, .ref x0), (3, .int x3)] []) : ∀ (n : Nat) (x4 : Int32) (u : PS), p_M_countQuestions_L9 x0 x1 x3 E78 n x4 u → XN l Z i_M_countQuestions u0 Kv u 9 [(0, .ref x0), (1, .int x1), (3, .int x3), (4, .int x4)] [] := by
  intro n
  induction n with
  | zero => intro x4 u k; exact False.elim k
  | succ n ih =>
    intro x4 u k
    rw [p_M_countQuestions_L9] at k
    by_cases hc1 : 1024 ≤ x4
    · have k := k.1 hc1
      obtain ⟨rv, v9, hK, hle_u, w9⟩ := hE78 u k
      refine ⟨rv, v9, hK, hle_u, ?_⟩
      intro p e s m args below meth c A H locs ls F hw hl
      obtain ⟨⟨hx, hb, hml, hown, hts⟩, hr, hlocks, hmn⟩ := id F
      refine lv_iload hx hb d_M_countQuestions_9 (lv_at hl 3 rfl) ?_
      refine lv_sipush (v := 1024) hx hb d_M_countQuestions_11 (by decide) ?_
      refine lv_icmp_ge (tgt := 78) hx hb d_M_countQuestions_14 (by decide) (fun _ => ?_) (fun c9 => absurd hc1 c9)
      exact w9 p e s m args below meth c A H locs ls F hw (lv_sub hl [0, 2] rfl)
    · have k := k.2 hc1
      obtain ⟨h3, k⟩ := k
      obtain ⟨_, u_42, ⟨r_43, rfl, k⟩, hM2⟩ := c_M_inputsOf l Z x0 x4 u _ k
      obtain ⟨n4, k⟩ := k
      have hx6 : ∀ (v5 : PS), (p_M_countQuestions_J72 (p_M_countQuestions_L9 x0 x1 x3 E78 n) E78 x0 x1 x3 x4 v5) → XN l Z i_M_countQuestions u0 Kv v5 72 [(0, .ref x0), (1, .int x1), (3, .int x3), (4, .int x4)] [] := by
        intro v5 k
        obtain ⟨rv, v9, hK, hle_v5, w9⟩ := t_M_countQuestions_J72 l Z u0 x0 x1 x3 x4 v5 ih hE78 k
        refine ⟨rv, v9, hK, hle_v5, ?_⟩
        intro p e s m args below meth c A H locs ls F hw hl
        obtain ⟨⟨hx, hb, hml, hown, hts⟩, hr, hlocks, hmn⟩ := id F
        exact w9 p e s m args below meth c A H locs ls F hw (lv_sub hl [0, 1, 2, 3] rfl)
      obtain ⟨rv, v9, hK, hle_u_42, w9⟩ := t_M_countQuestions_L28 l Z u0 x0 x1 x3 x4 r_43 hx6 n4 (0 : Int32) u_42 k
      have hle_u : x_le u v9 := (hM2.1).tr hle_u_42
      refine ⟨rv, v9, hK, hle_u, ?_⟩
      intro p e s m args below meth c A H locs ls F hw hl
      obtain ⟨⟨hx, hb, hml, hown, hts⟩, hr, hlocks, hmn⟩ := id F
      refine lv_iload hx hb d_M_countQuestions_9 (lv_at hl 3 rfl) ?_
      refine lv_sipush (v := 1024) hx hb d_M_countQuestions_11 (by decide) ?_
      refine lv_icmp_ge (tgt := 78) hx hb d_M_countQuestions_14 (by decide) (fun c9 => absurd c9 hc1) (fun _ => ?_)
      refine lv_aload_n hx hb d_M_countQuestions_17 rfl (lv_at hl 0 rfl) ?_
      refine lv_iload hx hb d_M_countQuestions_18 (lv_at hl 3 rfl) ?_
      refine xr_cV (As := [.int x4]) (rest := []) ⟨hx, hb, hml, hown, hts⟩ hw hM2 hle_u_42 (fun _ _ => ⟨callB_of 1 hts (xgood w_991) rfl rfl rfl (hts _ (xm w_8)) (hts _ (xm w_988)) ⟨by decide, by decide, by decide +kernel⟩ ⟨Nat.le_of_ble_eq_true rfl, Nat.le_of_ble_eq_true rfl⟩, (hts _ (xm w_990)), (hts _ (xm wp_44))⟩) (qc := (R_M, F_M, 14)) rfl rfl h3 rfl hl.1 rfl (Nat.le_of_ble_eq_true rfl) d_M_countQuestions_20 (fun H locs hw => ?_)
      refine W.eq (g2 := F0 m 23 ls [.int r_43]) rfl ?_
      refine lv_istore (lv' := [(5, .int r_43), (0, .ref x0), (1, .int x1), (3, .int x3), (4, .int x4)]) hx hb d_M_countQuestions_23 hl (by decide) rfl (fun ls hl => ?_)
      refine lv_iconst (v := 0) hx hb d_M_countQuestions_25 (by decide) ?_
      refine lv_istore (lv' := [(6, .int 0), (5, .int r_43), (0, .ref x0), (1, .int x1), (3, .int x3), (4, .int x4)]) hx hb d_M_countQuestions_26 hl (by decide) rfl (fun ls hl => ?_)
      exact w9 p e s m args below meth c A H locs ls F hw (lv_sub hl [2, 3, 4, 5, 1, 0] rfl)
set_option maxRecDepth 100000 in
set_option maxHeartbeats 4000000 in
theorem t_M_countQuestions_L126 (l : Launch) (Z : XZ) (u0 : PS) {Kv : Option Value → PS → Prop} {E191 : PS → Prop} (x0 : Nat) (x3 : Int32) (x4 : Int32) (x5 : Int32) (x6 : Int32) (x7 : Int32) (hE191 : ∀ (v : PS), E191 v → XN l Z i_M_countQuestions u0 Kv v 191 [(0, .ref x0), (3, .int x3), (4, .int x4), (5, .int x5), (6, .int x6), (7, .int x7)] []) : ∀ (n : Nat) (x8 : Int32) (u : PS), p_M_countQuestions_L126 x0 x3 x4 x5 x6 x7 E191 n x8 u → XN l Z i_M_countQuestions u0 Kv u 126 [(0, .ref x0), (3, .int x3), (4, .int x4), (5, .int x5), (6, .int x6), (7, .int x7), (8, .int x8)] [] := by
  intro n
  induction n with
  | zero => intro x8 u k; exact False.elim k
  | succ n ih =>
    intro x8 u k
    rw [p_M_countQuestions_L126] at k
    by_cases hc1 : x6 ≤ x8
    · have k := k.1 hc1
      obtain ⟨rv, v9, hK, hle_u, w9⟩ := hE191 u k
      refine ⟨rv, v9, hK, hle_u, ?_⟩
      intro p e s m args below meth c A H locs ls F hw hl
      obtain ⟨⟨hx, hb, hml, hown, hts⟩, hr, hlocks, hmn⟩ := id F
      refine lv_iload hx hb d_M_countQuestions_126 (lv_at hl 6 rfl) ?_
      refine lv_iload hx hb d_M_countQuestions_128 (lv_at hl 4 rfl) ?_
      refine lv_icmp_ge (tgt := 191) hx hb d_M_countQuestions_130 (by decide) (fun _ => ?_) (fun c9 => absurd hc1 c9)
      exact w9 p e s m args below meth c A H locs ls F hw (lv_sub hl [0, 1, 2, 3, 4, 5] rfl)
    · have k := k.2 hc1
      obtain ⟨z_52, h2, k⟩ := k
      obtain ⟨z_53, h3, k⟩ := k
      obtain ⟨z_54, h4, k⟩ := k
      obtain ⟨z_55, h5, k⟩ := k
      obtain ⟨z_56, h6, k⟩ := k
      obtain ⟨h8, k⟩ := k
      obtain ⟨_, u_57, ⟨r_58, rfl, k⟩, hM7⟩ := c_M_pair l Z x0 z_54 z_56 u _ k
      obtain ⟨u_59, h9, k⟩ := k
      obtain ⟨y10, ey10⟩ : ∃ y9 : Int32, y9 = x8 + 1 := ⟨_, rfl⟩
      have k := k y10 ey10
      obtain ⟨rv, v9, hK, hle_u_59, w9⟩ := ih y10 u_59 k
      have hle_u_57 : x_le u_57 v9 := (h9.le).tr hle_u_59
      have hle_u : x_le u v9 := (hM7.1).tr hle_u_57
      refine ⟨rv, v9, hK, hle_u, ?_⟩
      intro p e s m args below meth c A H locs ls F hw hl
      obtain ⟨⟨hx, hb, hml, hown, hts⟩, hr, hlocks, hmn⟩ := id F
      refine lv_iload hx hb d_M_countQuestions_126 (lv_at hl 6 rfl) ?_
      refine lv_iload hx hb d_M_countQuestions_128 (lv_at hl 4 rfl) ?_
      refine lv_icmp_ge (tgt := 191) hx hb d_M_countQuestions_130 (by decide) (fun c9 => absurd c9 hc1) (fun _ => ?_)
      refine lv_aload_n hx hb d_M_countQuestions_133 rfl (lv_at hl 0 rfl) ?_
      refine xr_get hx hb hts (xmu uws_M) hown hw h2 rfl (by decide) (hts _ (xm w_872)) (fun _ h9 => h9) d_M_countQuestions_134 ?_
      refine lv_sipush (v := 1024) hx hb d_M_countQuestions_137 (by decide) ?_
      refine lv_iload hx hb d_M_countQuestions_140 (lv_at hl 5 rfl) ?_
      refine lv_imul hx hb d_M_countQuestions_142 ?_
      refine lv_iload hx hb d_M_countQuestions_143 (lv_at hl 6 rfl) ?_
      refine lv_iadd hx hb d_M_countQuestions_145 ?_
      refine lv_aload_n hx hb d_M_countQuestions_146 rfl (lv_at hl 0 rfl) ?_
      refine lv_aload_n hx hb d_M_countQuestions_147 rfl (lv_at hl 0 rfl) ?_
      refine xr_get hx hb hts (xmu uws_M) hown hw h3 rfl (by decide) (hts _ (xm w_872)) (fun _ h9 => h9) d_M_countQuestions_148 ?_
      refine lv_sipush (v := 1024) hx hb d_M_countQuestions_151 (by decide) ?_
      refine lv_iload hx hb d_M_countQuestions_154 (lv_at hl 5 rfl) ?_
      refine lv_imul hx hb d_M_countQuestions_156 ?_
      refine lv_iconst (v := 2) hx hb d_M_countQuestions_157 (by decide) ?_
      refine lv_iload hx hb d_M_countQuestions_158 (lv_at hl 6 rfl) ?_
      refine lv_imul hx hb d_M_countQuestions_160 ?_
      refine lv_iadd hx hb d_M_countQuestions_161 ?_
      refine xr_iald hx hb hw h4 d_M_countQuestions_162 ?_
      refine lv_aload_n hx hb d_M_countQuestions_163 rfl (lv_at hl 0 rfl) ?_
      refine xr_get hx hb hts (xmu uws_M) hown hw h5 rfl (by decide) (hts _ (xm w_872)) (fun _ h9 => h9) d_M_countQuestions_164 ?_
      refine lv_sipush (v := 1024) hx hb d_M_countQuestions_167 (by decide) ?_
      refine lv_iload hx hb d_M_countQuestions_170 (lv_at hl 5 rfl) ?_
      refine lv_imul hx hb d_M_countQuestions_172 ?_
      refine lv_iconst (v := 2) hx hb d_M_countQuestions_173 (by decide) ?_
      refine lv_iload hx hb d_M_countQuestions_174 (lv_at hl 6 rfl) ?_
      refine lv_imul hx hb d_M_countQuestions_176 ?_
      refine lv_iadd hx hb d_M_countQuestions_177 ?_
      refine lv_iconst (v := 1) hx hb d_M_countQuestions_178 (by decide) ?_
      refine lv_iadd hx hb d_M_countQuestions_179 ?_
      refine xr_iald hx hb hw h6 d_M_countQuestions_180 ?_
      refine xr_cV (As := [.int z_54, .int z_56]) (rest := [.int (((1024 : Int32) * x7) + x8), .ref z_52]) ⟨hx, hb, hml, hown, hts⟩ hw hM7 hle_u_57 (fun _ _ => ⟨callB_of 2 hts (xgood w_995) rfl rfl rfl (hts _ (xm w_8)) (hts _ (xm w_992)) ⟨by decide, by decide, by decide +kernel⟩ ⟨Nat.le_of_ble_eq_true rfl, Nat.le_of_ble_eq_true rfl⟩, (hts _ (xm w_994)), (hts _ (xm wp_45))⟩) (qc := (R_M, F_M, 14)) rfl rfl h8 rfl hl.1 rfl (Nat.le_of_ble_eq_true rfl) d_M_countQuestions_181 (fun H locs hw => ?_)
      refine W.eq (g2 := F0 m 184 ls [.int r_58, .int (((1024 : Int32) * x7) + x8), .ref z_52]) rfl ?_
      refine xr_iast hx hb hw h9 d_M_countQuestions_184 (fun H locs hw => ?_)
      refine lv_iinc (v := y10) (lv' := [(8, .int y10), (0, .ref x0), (3, .int x3), (4, .int x4), (5, .int x5), (6, .int x6), (7, .int x7)]) hx hb d_M_countQuestions_185 hl (k := 6) rfl (by subst ey10; rfl) (by decide) rfl (fun ls hl => ?_)
      refine lv_goto (tgt := 126) hx hb d_M_countQuestions_188 (by decide) ?_
      exact w9 p e s m args below meth c A H locs ls F hw (lv_sub hl [1, 2, 3, 4, 5, 6, 0] rfl)
set_option maxRecDepth 100000 in
set_option maxHeartbeats 4000000 in
theorem t_M_countQuestions_J191 (l : Launch) (Z : XZ) (u0 : PS) {Kv : Option Value → PS → Prop} {R : Int32 → PS → Prop} {E197 : PS → Prop} (x0 : Nat) (x3 : Int32) (x4 : Int32) (x5 : Int32) (x6 : Int32) (x7 : Int32) (u : PS) (hR : ∀ (y7 : Int32) (v : PS), R y7 v → XN l Z i_M_countQuestions u0 Kv v 117 [(0, .ref x0), (3, .int x3), (4, .int x4), (5, .int x5), (6, .int x6), (7, .int y7)] []) (hE197 : ∀ (v : PS), E197 v → XN l Z i_M_countQuestions u0 Kv v 197 [(0, .ref x0), (3, .int x3), (4, .int x4), (5, .int x5)] []) (k : (p_M_countQuestions_J191 R E197 x0 x3 x4 x5 x6 x7 u)) : XN l Z i_M_countQuestions u0 Kv u 191 [(0, .ref x0), (3, .int x3), (4, .int x4), (5, .int x5), (6, .int x6), (7, .int x7)] [] := by
  unfold p_M_countQuestions_J191 at k
  obtain ⟨y1, ey1⟩ : ∃ y9 : Int32, y9 = x7 + 1 := ⟨_, rfl⟩
  have k := k y1 ey1
  obtain ⟨rv, v9, hK, hle_u, w9⟩ := hR y1 u k
  refine ⟨rv, v9, hK, hle_u, ?_⟩
  intro p e s m args below meth c A H locs ls F hw hl
  obtain ⟨⟨hx, hb, hml, hown, hts⟩, hr, hlocks, hmn⟩ := id F
  refine lv_iinc (v := y1) (lv' := [(7, .int y1), (0, .ref x0), (3, .int x3), (4, .int x4), (5, .int x5), (6, .int x6)]) hx hb d_M_countQuestions_191 hl (k := 5) rfl (by subst ey1; rfl) (by decide) rfl (fun ls hl => ?_)
  refine lv_goto (tgt := 117) hx hb d_M_countQuestions_194 (by decide) ?_
  exact w9 p e s m args below meth c A H locs ls F hw (lv_sub hl [1, 2, 3, 4, 5, 0] rfl)
set_option maxRecDepth 100000 in
set_option maxHeartbeats 4000000 in
theorem t_M_countQuestions_L117 (l : Launch) (Z : XZ) (u0 : PS) {Kv : Option Value → PS → Prop} {E197 : PS → Prop} (x0 : Nat) (x3 : Int32) (x4 : Int32) (x5 : Int32) (x6 : Int32) (hE197 : ∀ (v : PS), E197 v → XN l Z i_M_countQuestions u0 Kv v 197 [(0, .ref x0), (3, .int x3), (4, .int x4), (5, .int x5)] []) : ∀ (n : Nat) (x7 : Int32) (u : PS), p_M_countQuestions_L117 x0 x3 x4 x5 x6 E197 n x7 u → XN l Z i_M_countQuestions u0 Kv u 117 [(0, .ref x0), (3, .int x3), (4, .int x4), (5, .int x5), (6, .int x6), (7, .int x7)] [] := by
  intro n
  induction n with
  | zero => intro x7 u k; exact False.elim k
  | succ n ih =>
    intro x7 u k
    rw [p_M_countQuestions_L117] at k
    by_cases hc1 : x3 ≤ x7
    · have k := k.1 hc1
      obtain ⟨rv, v9, hK, hle_u, w9⟩ := hE197 u k
      refine ⟨rv, v9, hK, hle_u, ?_⟩
      intro p e s m args below meth c A H locs ls F hw hl
      obtain ⟨⟨hx, hb, hml, hown, hts⟩, hr, hlocks, hmn⟩ := id F
      refine lv_iload hx hb d_M_countQuestions_117 (lv_at hl 5 rfl) ?_
      refine lv_iload_n hx hb d_M_countQuestions_119 rfl (lv_at hl 1 rfl) ?_
      refine lv_icmp_ge (tgt := 197) hx hb d_M_countQuestions_120 (by decide) (fun _ => ?_) (fun c9 => absurd hc1 c9)
      exact w9 p e s m args below meth c A H locs ls F hw (lv_sub hl [0, 1, 2, 3] rfl)
    · have k := k.2 hc1
      obtain ⟨n2, k⟩ := k
      have hx4 : ∀ (v3 : PS), (p_M_countQuestions_J191 (p_M_countQuestions_L117 x0 x3 x4 x5 x6 E197 n) E197 x0 x3 x4 x5 x6 x7 v3) → XN l Z i_M_countQuestions u0 Kv v3 191 [(0, .ref x0), (3, .int x3), (4, .int x4), (5, .int x5), (6, .int x6), (7, .int x7)] [] := by
        intro v3 k
        obtain ⟨rv, v9, hK, hle_v3, w9⟩ := t_M_countQuestions_J191 l Z u0 x0 x3 x4 x5 x6 x7 v3 ih hE197 k
        refine ⟨rv, v9, hK, hle_v3, ?_⟩
        intro p e s m args below meth c A H locs ls F hw hl
        obtain ⟨⟨hx, hb, hml, hown, hts⟩, hr, hlocks, hmn⟩ := id F
        exact w9 p e s m args below meth c A H locs ls F hw (lv_sub hl [0, 1, 2, 3, 4, 5] rfl)
      obtain ⟨rv, v9, hK, hle_u, w9⟩ := t_M_countQuestions_L126 l Z u0 x0 x3 x4 x5 x6 x7 hx4 n2 (0 : Int32) u k
      refine ⟨rv, v9, hK, hle_u, ?_⟩
      intro p e s m args below meth c A H locs ls F hw hl
      obtain ⟨⟨hx, hb, hml, hown, hts⟩, hr, hlocks, hmn⟩ := id F
      refine lv_iload hx hb d_M_countQuestions_117 (lv_at hl 5 rfl) ?_
      refine lv_iload_n hx hb d_M_countQuestions_119 rfl (lv_at hl 1 rfl) ?_
      refine lv_icmp_ge (tgt := 197) hx hb d_M_countQuestions_120 (by decide) (fun c9 => absurd c9 hc1) (fun _ => ?_)
      refine lv_iconst (v := 0) hx hb d_M_countQuestions_123 (by decide) ?_
      refine lv_istore (lv' := [(8, .int 0), (0, .ref x0), (3, .int x3), (4, .int x4), (5, .int x5), (6, .int x6), (7, .int x7)]) hx hb d_M_countQuestions_124 hl (by decide) rfl (fun ls hl => ?_)
      exact w9 p e s m args below meth c A H locs ls F hw (lv_sub hl [1, 2, 3, 4, 5, 6, 0] rfl)
set_option maxRecDepth 100000 in
set_option maxHeartbeats 4000000 in
theorem t_M_countQuestions_J197 (l : Launch) (Z : XZ) (u0 : PS) {Kv : Option Value → PS → Prop} {R : Int32 → PS → Prop} {E222 : PS → Prop} (x0 : Nat) (x3 : Int32) (x4 : Int32) (x5 : Int32) (u : PS) (hR : ∀ (y4 : Int32) (v : PS), R y4 v → XN l Z i_M_countQuestions u0 Kv v 87 [(0, .ref x0), (3, .int x3), (4, .int y4)] []) (hE222 : ∀ (v : PS), E222 v → XN l Z i_M_countQuestions u0 Kv v 222 [(0, .ref x0)] []) (k : (p_M_countQuestions_J197 R E222 x0 x3 x4 x5 u)) : XN l Z i_M_countQuestions u0 Kv u 197 [(0, .ref x0), (3, .int x3), (4, .int x4), (5, .int x5)] [] := by
  unfold p_M_countQuestions_J197 at k
  obtain ⟨z_60, h1, k⟩ := k
  obtain ⟨z_61, h2, k⟩ := k
  obtain ⟨z_62, h3, k⟩ := k
  obtain ⟨z_63, h4, k⟩ := k
  obtain ⟨u_64, h5, k⟩ := k
  obtain ⟨y6, ey6⟩ : ∃ y9 : Int32, y9 = x4 + (-1) := ⟨_, rfl⟩
  have k := k y6 ey6
  obtain ⟨rv, v9, hK, hle_u_64, w9⟩ := hR y6 u_64 k
  have hle_u : x_le u v9 := (h5.le).tr hle_u_64
  refine ⟨rv, v9, hK, hle_u, ?_⟩
  intro p e s m args below meth c A H locs ls F hw hl
  obtain ⟨⟨hx, hb, hml, hown, hts⟩, hr, hlocks, hmn⟩ := id F
  refine lv_aload_n hx hb d_M_countQuestions_197 rfl (lv_at hl 0 rfl) ?_
  refine xr_get hx hb hts (xmu uws_M) hown hw h1 rfl (by decide) (hts _ (xm w_879)) (fun _ h9 => h9) d_M_countQuestions_198 ?_
  refine lv_aload_n hx hb d_M_countQuestions_201 rfl (lv_at hl 0 rfl) ?_
  refine xr_get hx hb hts (xmu uws_M) hown hw h2 rfl (by decide) (hts _ (xm w_871)) (fun _ h9 => h9) d_M_countQuestions_202 ?_
  refine lv_iload hx hb d_M_countQuestions_205 (lv_at hl 2 rfl) ?_
  refine xr_iald hx hb hw h3 d_M_countQuestions_207 ?_
  refine lv_aload_n hx hb d_M_countQuestions_208 rfl (lv_at hl 0 rfl) ?_
  refine xr_get hx hb hts (xmu uws_M) hown hw h4 rfl (by decide) (hts _ (xm w_873)) (fun _ h9 => h9) d_M_countQuestions_209 ?_
  refine lv_iload hx hb d_M_countQuestions_212 (lv_at hl 3 rfl) ?_
  refine lv_isub hx hb d_M_countQuestions_214 ?_
  refine xr_iast hx hb hw h5 d_M_countQuestions_215 (fun H locs hw => ?_)
  refine lv_iinc (v := y6) (lv' := [(4, .int y6), (0, .ref x0), (3, .int x3), (5, .int x5)]) hx hb d_M_countQuestions_216 hl (k := 2) rfl (by subst ey6; rfl) (by decide) rfl (fun ls hl => ?_)
  refine lv_goto (tgt := 87) hx hb d_M_countQuestions_219 (by decide) ?_
  exact w9 p e s m args below meth c A H locs ls F hw (lv_sub hl [1, 2, 0] rfl)
set_option maxRecDepth 100000 in
set_option maxHeartbeats 4000000 in
theorem t_M_countQuestions_L87 (l : Launch) (Z : XZ) (u0 : PS) {Kv : Option Value → PS → Prop} {E222 : PS → Prop} (x0 : Nat) (x3 : Int32) (hE222 : ∀ (v : PS), E222 v → XN l Z i_M_countQuestions u0 Kv v 222 [(0, .ref x0)] []) : ∀ (n : Nat) (x4 : Int32) (u : PS), p_M_countQuestions_L87 x0 x3 E222 n x4 u → XN l Z i_M_countQuestions u0 Kv u 87 [(0, .ref x0), (3, .int x3), (4, .int x4)] [] := by
  intro n
  induction n with
  | zero => intro x4 u k; exact False.elim k
  | succ n ih =>
    intro x4 u k
    rw [p_M_countQuestions_L87] at k
    by_cases hc1 : x4 < 0
    · have k := k.1 hc1
      obtain ⟨rv, v9, hK, hle_u, w9⟩ := hE222 u k
      refine ⟨rv, v9, hK, hle_u, ?_⟩
      intro p e s m args below meth c A H locs ls F hw hl
      obtain ⟨⟨hx, hb, hml, hown, hts⟩, hr, hlocks, hmn⟩ := id F
      refine lv_iload hx hb d_M_countQuestions_87 (lv_at hl 2 rfl) ?_
      refine lv_if_lt (tgt := 222) hx hb d_M_countQuestions_89 (by decide) (fun _ => ?_) (fun c9 => absurd hc1 c9)
      exact w9 p e s m args below meth c A H locs ls F hw (lv_sub hl [0] rfl)
    · have k := k.2 hc1
      obtain ⟨z_49, h2, k⟩ := k
      obtain ⟨y3, ey3⟩ : ∃ y9 : Int32, y9 = ((1 : Int32) <<< (x4 &&& 31)) := ⟨_, rfl⟩
      have k := k y3 ey3
      obtain ⟨z_50, h4, k⟩ := k
      obtain ⟨u_51, h5, k⟩ := k
      obtain ⟨n6, k⟩ := k
      have hx8 : ∀ (v7 : PS), (p_M_countQuestions_J197 (p_M_countQuestions_L87 x0 x3 E222 n) E222 x0 x3 x4 z_49 v7) → XN l Z i_M_countQuestions u0 Kv v7 197 [(0, .ref x0), (3, .int x3), (4, .int x4), (5, .int z_49)] [] := by
        intro v7 k
        obtain ⟨rv, v9, hK, hle_v7, w9⟩ := t_M_countQuestions_J197 l Z u0 x0 x3 x4 z_49 v7 ih hE222 k
        refine ⟨rv, v9, hK, hle_v7, ?_⟩
        intro p e s m args below meth c A H locs ls F hw hl
        obtain ⟨⟨hx, hb, hml, hown, hts⟩, hr, hlocks, hmn⟩ := id F
        exact w9 p e s m args below meth c A H locs ls F hw (lv_sub hl [0, 1, 2, 3] rfl)
      obtain ⟨rv, v9, hK, hle_u_51, w9⟩ := t_M_countQuestions_L117 l Z u0 x0 x3 x4 z_49 y3 hx8 n6 (0 : Int32) u_51 k
      have hle_u : x_le u v9 := (h5.le).tr hle_u_51
      refine ⟨rv, v9, hK, hle_u, ?_⟩
      intro p e s m args below meth c A H locs ls F hw hl
      obtain ⟨⟨hx, hb, hml, hown, hts⟩, hr, hlocks, hmn⟩ := id F
      refine lv_iload hx hb d_M_countQuestions_87 (lv_at hl 2 rfl) ?_
      refine lv_if_lt (tgt := 222) hx hb d_M_countQuestions_89 (by decide) (fun c9 => absurd c9 hc1) (fun _ => ?_)
      refine lv_aload_n hx hb d_M_countQuestions_92 rfl (lv_at hl 0 rfl) ?_
      refine xr_get hx hb hts (xmu uws_M) hown hw h2 rfl (by decide) (hts _ (xm w_873)) (fun _ h9 => h9) d_M_countQuestions_93 ?_
      refine lv_istore (lv' := [(5, .int z_49), (0, .ref x0), (3, .int x3), (4, .int x4)]) hx hb d_M_countQuestions_96 hl (by decide) rfl (fun ls hl => ?_)
      refine lv_iconst (v := 1) hx hb d_M_countQuestions_98 (by decide) ?_
      refine lv_iload hx hb d_M_countQuestions_99 (lv_at hl 3 rfl) ?_
      refine lv_ishl hx hb d_M_countQuestions_101 ?_
      refine lv_istore (lv' := [(6, .int y3), (5, .int z_49), (0, .ref x0), (3, .int x3), (4, .int x4)]) hx hb d_M_countQuestions_102 hl (by decide) (by subst ey3; rfl) (fun ls hl => ?_)
      refine lv_aload_n hx hb d_M_countQuestions_104 rfl (lv_at hl 2 rfl) ?_
      refine lv_dup hx hb d_M_countQuestions_105 rfl ?_
      refine xr_get hx hb hts (xmu uws_M) hown hw h4 rfl (by decide) (hts _ (xm w_878)) (fun _ h9 => h9) d_M_countQuestions_106 ?_
      refine lv_iconst (v := 1) hx hb d_M_countQuestions_109 (by decide) ?_
      refine lv_iadd hx hb d_M_countQuestions_110 ?_
      refine xr_put (ty := .int) hx hb hts (xmu uws_M) tyc_M tyc_M_ok nmc_M hown hw h5 rfl (by decide) (hts _ (xm w_878)) (fun _ h9 => h9) rfl (by decide +kernel) rfl rfl d_M_countQuestions_111 (fun H locs hw => ?_)
      refine lv_iconst (v := 0) hx hb d_M_countQuestions_114 (by decide) ?_
      refine lv_istore (lv' := [(7, .int 0), (6, .int y3), (5, .int z_49), (0, .ref x0), (3, .int x3), (4, .int x4)]) hx hb d_M_countQuestions_115 hl (by decide) rfl (fun ls hl => ?_)
      exact w9 p e s m args below meth c A H locs ls F hw (lv_sub hl [3, 4, 5, 2, 1, 0] rfl)
set_option maxRecDepth 100000 in
set_option maxHeartbeats 4000000 in
theorem t_M_countQuestions_J222 (l : Launch) (Z : XZ) (u0 : PS) {K : Int32 → PS → Prop} (x0 : Nat) (u : PS) (k : (p_M_countQuestions_J222 K x0 u)) : XN l Z i_M_countQuestions u0 (kI K) u 222 [(0, .ref x0)] [] := by
  unfold p_M_countQuestions_J222 at k
  obtain ⟨z_65, h1, k⟩ := k
  have hle_u : x_le u u := x_le.rf u
  refine ⟨some (.int z_65), u, ⟨z_65, rfl, k⟩, hle_u, ?_⟩
  intro p e s m args below meth c A H locs ls F hw hl
  obtain ⟨⟨hx, hb, hml, hown, hts⟩, hr, hlocks, hmn⟩ := id F
  refine lv_aload_n hx hb d_M_countQuestions_222 rfl (lv_at hl 0 rfl) ?_
  refine xr_get hx hb hts (xmu uws_M) hown hw h1 rfl (by decide) (hts _ (xm w_873)) (fun _ h9 => h9) d_M_countQuestions_223 ?_
  exact xr_iret F rfl hw d_M_countQuestions_226
set_option maxRecDepth 100000 in
set_option maxHeartbeats 4000000 in
theorem t_M_countQuestions_J78 (l : Launch) (Z : XZ) (u0 : PS) {K : Int32 → PS → Prop} (x0 : Nat) (x3 : Int32) (u : PS) (k : (p_M_countQuestions_J78 K x0 x3 u)) : XN l Z i_M_countQuestions u0 (kI K) u 78 [(0, .ref x0), (3, .int x3)] [] := by
  unfold p_M_countQuestions_J78 at k
  obtain ⟨u_48, h1, k⟩ := k
  obtain ⟨n2, k⟩ := k
  have hx4 : ∀ (v3 : PS), (p_M_countQuestions_J222 K x0 v3) → XN l Z i_M_countQuestions u0 (kI K) v3 222 [(0, .ref x0)] [] := by
    intro v3 k
    obtain ⟨rv, v9, hK, hle_v3, w9⟩ := t_M_countQuestions_J222 l Z u0 x0 v3 k
    refine ⟨rv, v9, hK, hle_v3, ?_⟩
    intro p e s m args below meth c A H locs ls F hw hl
    obtain ⟨⟨hx, hb, hml, hown, hts⟩, hr, hlocks, hmn⟩ := id F
    exact w9 p e s m args below meth c A H locs ls F hw (lv_sub hl [0] rfl)
  obtain ⟨rv, v9, hK, hle_u_48, w9⟩ := t_M_countQuestions_L87 l Z u0 x0 x3 hx4 n2 (9 : Int32) u_48 k
  have hle_u : x_le u v9 := (h1.le).tr hle_u_48
  refine ⟨rv, v9, hK, hle_u, ?_⟩
  intro p e s m args below meth c A H locs ls F hw hl
  obtain ⟨⟨hx, hb, hml, hown, hts⟩, hr, hlocks, hmn⟩ := id F
  refine lv_aload_n hx hb d_M_countQuestions_78 rfl (lv_at hl 0 rfl) ?_
  refine lv_iconst (v := 0) hx hb d_M_countQuestions_79 (by decide) ?_
  refine xr_put (ty := .int) hx hb hts (xmu uws_M) tyc_M tyc_M_ok nmc_M hown hw h1 rfl (by decide) (hts _ (xm w_873)) (fun _ h9 => h9) rfl (by decide +kernel) rfl rfl d_M_countQuestions_80 (fun H locs hw => ?_)
  refine lv_bipush (v := 9) hx hb d_M_countQuestions_83 (by decide) ?_
  refine lv_istore (lv' := [(4, .int 9), (0, .ref x0), (3, .int x3)]) hx hb d_M_countQuestions_85 hl (by decide) rfl (fun ls hl => ?_)
  exact w9 p e s m args below meth c A H locs ls F hw (lv_sub hl [1, 2, 0] rfl)
set_option maxRecDepth 100000 in
set_option maxHeartbeats 4000000 in
theorem c_M_countQuestions (l : Launch) (Z : XZ) (x0 : Nat) (x1 : Int32) (x2 : Int32) (u : PS) (K : Int32 → PS → Prop) (k : p_M_countQuestions x0 x1 x2 u K) : ∃ (rv : Option Value) (u1 : PS), (kI K) rv u1 ∧ XMet l Z i_M_countQuestions [.ref x0, .int x1, .int x2] u rv u1 := by
  refine x_met (by decide) rfl (Nat.le_of_ble_eq_true rfl) ?_
  show XN l Z i_M_countQuestions u (kI K) u 0 [(0, .ref x0), (1, .int x1), (2, .int x2)] []
  unfold p_M_countQuestions at k
  obtain ⟨y1, ey1⟩ : ∃ y9 : Int32, y9 = ((x2 - x1) + (1 : Int32)) := ⟨_, rfl⟩
  have k := k y1 ey1
  obtain ⟨n2, k⟩ := k
  have hx4 : ∀ (v3 : PS), (p_M_countQuestions_J78 K x0 y1 v3) → XN l Z i_M_countQuestions u (kI K) v3 78 [(0, .ref x0), (3, .int y1)] [] := by
    intro v3 k
    obtain ⟨rv, v9, hK, hle_v3, w9⟩ := t_M_countQuestions_J78 l Z u x0 y1 v3 k
    refine ⟨rv, v9, hK, hle_v3, ?_⟩
    intro p e s m args below meth c A H locs ls F hw hl
    obtain ⟨⟨hx, hb, hml, hown, hts⟩, hr, hlocks, hmn⟩ := id F
    exact w9 p e s m args below meth c A H locs ls F hw (lv_sub hl [0, 1] rfl)
  obtain ⟨rv, v9, hK, hle_u, w9⟩ := t_M_countQuestions_L9 l Z u x0 x1 y1 hx4 n2 (0 : Int32) u k
  refine ⟨rv, v9, hK, hle_u, ?_⟩
  intro p e s m args below meth c A H locs ls F hw hl
  obtain ⟨⟨hx, hb, hml, hown, hts⟩, hr, hlocks, hmn⟩ := id F
  refine lv_iload_n hx hb d_M_countQuestions_0 rfl (lv_at hl 2 rfl) ?_
  refine lv_iload_n hx hb d_M_countQuestions_1 rfl (lv_at hl 1 rfl) ?_
  refine lv_isub hx hb d_M_countQuestions_2 ?_
  refine lv_iconst (v := 1) hx hb d_M_countQuestions_3 (by decide) ?_
  refine lv_iadd hx hb d_M_countQuestions_4 ?_
  refine lv_istore_n (lv' := [(3, .int y1), (0, .ref x0), (1, .int x1), (2, .int x2)]) hx hb d_M_countQuestions_5 rfl hl (by decide) (by subst ey1; rfl) (fun ls hl => ?_)
  refine lv_iconst (v := 0) hx hb d_M_countQuestions_6 (by decide) ?_
  refine lv_istore (lv' := [(4, .int 0), (3, .int y1), (0, .ref x0), (1, .int x1), (2, .int x2)]) hx hb d_M_countQuestions_7 hl (by decide) rfl (fun ls hl => ?_)
  exact w9 p e s m args below meth c A H locs ls F hw (lv_sub hl [2, 3, 1, 0] rfl)
