set_option maxRecDepth 100000 in
set_option maxHeartbeats 4000000 in
theorem t_M_choose_J87 (l : Launch) (Z : XZ) (u0 : PS) {Kv : Option Value → PS → Prop} {R : Int32 → PS → Prop} {E94 : PS → Prop} (x0 : Nat) (x1 : Int32) (x2 : Int32) (x3 : Int32) (x4 : Int32) (x5 : Int32) (s0 : Nat) (s1 : Int32) (s2 : Int32) (u : PS) (hR : ∀ (y5 : Int32) (v : PS), R y5 v → XN l Z i_M_choose u0 Kv v 45 [(0, .ref x0), (1, .int x1), (2, .int x2), (3, .int x3), (4, .int x4), (5, .int y5)] []) (hE94 : ∀ (v : PS), E94 v → XN l Z i_M_choose u0 Kv v 94 [(0, .ref x0), (1, .int x1)] []) (k : (p_M_choose_J87 R E94 x0 x1 x2 x3 x4 x5 s0 s1 s2 u)) : XN l Z i_M_choose u0 Kv u 87 [(0, .ref x0), (1, .int x1), (2, .int x2), (3, .int x3), (4, .int x4), (5, .int x5)] [.int s2, .int s1, .ref s0] := by
  unfold p_M_choose_J87 at k
  obtain ⟨u_32, h1, k⟩ := k
  obtain ⟨y2, ey2⟩ : ∃ y9 : Int32, y9 = x5 + 1 := ⟨_, rfl⟩
  have k := k y2 ey2
  obtain ⟨rv, v9, hK, hle_u_32, w9⟩ := hR y2 u_32 k
  have hle_u : x_le u v9 := (h1.le).tr hle_u_32
  refine ⟨rv, v9, hK, hle_u, ?_⟩
  intro p e s m args below meth c A H locs ls F hw hl
  obtain ⟨⟨hx, hb, hml, hown, hts⟩, hr, hlocks, hmn⟩ := id F
  refine xr_zast hx hb hw h1 d_M_choose_87 (fun H locs hw => ?_)
  refine lv_iinc (v := y2) (lv' := [(5, .int y2), (0, .ref x0), (1, .int x1), (2, .int x2), (3, .int x3), (4, .int x4)]) hx hb d_M_choose_88 hl (k := 5) rfl (by subst ey2; rfl) (by decide) rfl (fun ls hl => ?_)
  refine lv_goto (tgt := 45) hx hb d_M_choose_91 (by decide) ?_
  exact w9 p e s m args below meth c A H locs ls F hw (lv_sub hl [1, 2, 3, 4, 5, 0] rfl)
set_option maxRecDepth 100000 in
set_option maxHeartbeats 4000000 in
theorem t_M_choose_L45 (l : Launch) (Z : XZ) (u0 : PS) {Kv : Option Value → PS → Prop} {E94 : PS → Prop} (x0 : Nat) (x1 : Int32) (x2 : Int32) (x3 : Int32) (x4 : Int32) (hE94 : ∀ (v : PS), E94 v → XN l Z i_M_choose u0 Kv v 94 [(0, .ref x0), (1, .int x1)] []) : ∀ (n : Nat) (x5 : Int32) (u : PS), p_M_choose_L45 x0 x1 x2 x3 x4 E94 n x5 u → XN l Z i_M_choose u0 Kv u 45 [(0, .ref x0), (1, .int x1), (2, .int x2), (3, .int x3), (4, .int x4), (5, .int x5)] [] := by
  intro n
  induction n with
  | zero => intro x5 u k; exact False.elim k
  | succ n ih =>
    intro x5 u k
    rw [p_M_choose_L45] at k
    by_cases hc1 : 1024 ≤ x5
    · have k := k.1 hc1
      obtain ⟨rv, v9, hK, hle_u, w9⟩ := hE94 u k
      refine ⟨rv, v9, hK, hle_u, ?_⟩
      intro p e s m args below meth c A H locs ls F hw hl
      obtain ⟨⟨hx, hb, hml, hown, hts⟩, hr, hlocks, hmn⟩ := id F
      refine lv_iload hx hb d_M_choose_45 (lv_at hl 5 rfl) ?_
      refine lv_sipush (v := 1024) hx hb d_M_choose_47 (by decide) ?_
      refine lv_icmp_ge (tgt := 94) hx hb d_M_choose_50 (by decide) (fun _ => ?_) (fun c9 => absurd hc1 c9)
      exact w9 p e s m args below meth c A H locs ls F hw (lv_sub hl [0, 1] rfl)
    · have k := k.2 hc1
      obtain ⟨z_27, h2, k⟩ := k
      obtain ⟨h4, k⟩ := k
      obtain ⟨_, u_28, ⟨r_29, rfl, k⟩, hM3⟩ := c_M_is l Z x0 x2 x5 u _ k
      by_cases hc5 : r_29 = 0
      · have k := k.1 hc5
        obtain ⟨h7, k⟩ := k
        obtain ⟨_, u_30, ⟨r_31, rfl, k⟩, hM6⟩ := c_M_is l Z x0 x4 x5 u_28 _ k
        obtain ⟨rv, v9, hK, hle_u_30, w9⟩ := t_M_choose_J87 l Z u0 x0 x1 x2 x3 x4 x5 z_27 x5 r_31 u_30 ih hE94 k
        have hle_u_28 : x_le u_28 v9 := (hM6.1).tr hle_u_30
        have hle_u : x_le u v9 := (hM3.1).tr hle_u_28
        refine ⟨rv, v9, hK, hle_u, ?_⟩
        intro p e s m args below meth c A H locs ls F hw hl
        obtain ⟨⟨hx, hb, hml, hown, hts⟩, hr, hlocks, hmn⟩ := id F
        refine lv_iload hx hb d_M_choose_45 (lv_at hl 5 rfl) ?_
        refine lv_sipush (v := 1024) hx hb d_M_choose_47 (by decide) ?_
        refine lv_icmp_ge (tgt := 94) hx hb d_M_choose_50 (by decide) (fun c9 => absurd c9 hc1) (fun _ => ?_)
        refine lv_aload_n hx hb d_M_choose_53 rfl (lv_at hl 0 rfl) ?_
        refine xr_get hx hb hts (xmu uws_M) hown hw h2 rfl (by decide) (hts _ (xm w_870)) (fun _ h9 => h9) d_M_choose_54 ?_
        refine lv_iload hx hb d_M_choose_57 (lv_at hl 5 rfl) ?_
        refine lv_aload_n hx hb d_M_choose_59 rfl (lv_at hl 0 rfl) ?_
        refine lv_iload_n hx hb d_M_choose_60 rfl (lv_at hl 2 rfl) ?_
        refine lv_iload hx hb d_M_choose_61 (lv_at hl 5 rfl) ?_
        refine xr_cV (As := [.int x2, .int x5]) (rest := [.int x5, .ref z_27]) ⟨hx, hb, hml, hown, hts⟩ hw hM3 hle_u_28 (fun _ _ => ⟨callB_of 2 hts (xgood w_944) rfl rfl rfl (hts _ (xm w_8)) (hts _ (xm w_941)) ⟨by decide, by decide, by decide +kernel⟩ ⟨Nat.le_of_ble_eq_true rfl, Nat.le_of_ble_eq_true rfl⟩, (hts _ (xm w_943)), (hts _ (xm wp_39))⟩) (qc := (R_M, F_M, 14)) rfl rfl h4 rfl hl.1 rfl (Nat.le_of_ble_eq_true rfl) d_M_choose_63 (fun H locs hw => ?_)
        refine W.eq (g2 := F0 m 66 ls [.int r_29, .int x5, .ref z_27]) rfl ?_
        refine lv_if_eq (tgt := 79) hx hb d_M_choose_66 (by decide) (fun _ => ?_) (fun c9 => absurd hc5 c9)
        refine lv_aload_n hx hb d_M_choose_79 rfl (lv_at hl 0 rfl) ?_
        refine lv_iload hx hb d_M_choose_80 (lv_at hl 4 rfl) ?_
        refine lv_iload hx hb d_M_choose_82 (lv_at hl 5 rfl) ?_
        refine xr_cV (As := [.int x4, .int x5]) (rest := [.int x5, .ref z_27]) ⟨hx, hb, hml, hown, hts⟩ hw hM6 hle_u_30 (fun _ _ => ⟨callB_of 2 hts (xgood w_944) rfl rfl rfl (hts _ (xm w_8)) (hts _ (xm w_941)) ⟨by decide, by decide, by decide +kernel⟩ ⟨Nat.le_of_ble_eq_true rfl, Nat.le_of_ble_eq_true rfl⟩, (hts _ (xm w_943)), (hts _ (xm wp_39))⟩) (qc := (R_M, F_M, 14)) rfl rfl h7 rfl hl.1 rfl (Nat.le_of_ble_eq_true rfl) d_M_choose_84 (fun H locs hw => ?_)
        refine W.eq (g2 := F0 m 87 ls [.int r_31, .int x5, .ref z_27]) rfl ?_
        exact w9 p e s m args below meth c A H locs ls F hw (lv_sub hl [0, 1, 2, 3, 4, 5] rfl)
      · have k := k.2 hc5
        obtain ⟨h9, k⟩ := k
        obtain ⟨_, u_33, ⟨r_34, rfl, k⟩, hM8⟩ := c_M_is l Z x0 x3 x5 u_28 _ k
        obtain ⟨rv, v9, hK, hle_u_33, w9⟩ := t_M_choose_J87 l Z u0 x0 x1 x2 x3 x4 x5 z_27 x5 r_34 u_33 ih hE94 k
        have hle_u_28 : x_le u_28 v9 := (hM8.1).tr hle_u_33
        have hle_u : x_le u v9 := (hM3.1).tr hle_u_28
        refine ⟨rv, v9, hK, hle_u, ?_⟩
        intro p e s m args below meth c A H locs ls F hw hl
        obtain ⟨⟨hx, hb, hml, hown, hts⟩, hr, hlocks, hmn⟩ := id F
        refine lv_iload hx hb d_M_choose_45 (lv_at hl 5 rfl) ?_
        refine lv_sipush (v := 1024) hx hb d_M_choose_47 (by decide) ?_
        refine lv_icmp_ge (tgt := 94) hx hb d_M_choose_50 (by decide) (fun c9 => absurd c9 hc1) (fun _ => ?_)
        refine lv_aload_n hx hb d_M_choose_53 rfl (lv_at hl 0 rfl) ?_
        refine xr_get hx hb hts (xmu uws_M) hown hw h2 rfl (by decide) (hts _ (xm w_870)) (fun _ h9 => h9) d_M_choose_54 ?_
        refine lv_iload hx hb d_M_choose_57 (lv_at hl 5 rfl) ?_
        refine lv_aload_n hx hb d_M_choose_59 rfl (lv_at hl 0 rfl) ?_
        refine lv_iload_n hx hb d_M_choose_60 rfl (lv_at hl 2 rfl) ?_
        refine lv_iload hx hb d_M_choose_61 (lv_at hl 5 rfl) ?_
        refine xr_cV (As := [.int x2, .int x5]) (rest := [.int x5, .ref z_27]) ⟨hx, hb, hml, hown, hts⟩ hw hM3 hle_u_28 (fun _ _ => ⟨callB_of 2 hts (xgood w_944) rfl rfl rfl (hts _ (xm w_8)) (hts _ (xm w_941)) ⟨by decide, by decide, by decide +kernel⟩ ⟨Nat.le_of_ble_eq_true rfl, Nat.le_of_ble_eq_true rfl⟩, (hts _ (xm w_943)), (hts _ (xm wp_39))⟩) (qc := (R_M, F_M, 14)) rfl rfl h4 rfl hl.1 rfl (Nat.le_of_ble_eq_true rfl) d_M_choose_63 (fun H locs hw => ?_)
        refine W.eq (g2 := F0 m 66 ls [.int r_29, .int x5, .ref z_27]) rfl ?_
        refine lv_if_eq (tgt := 79) hx hb d_M_choose_66 (by decide) (fun c9 => absurd c9 hc5) (fun _ => ?_)
        refine lv_aload_n hx hb d_M_choose_69 rfl (lv_at hl 0 rfl) ?_
        refine lv_iload_n hx hb d_M_choose_70 rfl (lv_at hl 3 rfl) ?_
        refine lv_iload hx hb d_M_choose_71 (lv_at hl 5 rfl) ?_
        refine xr_cV (As := [.int x3, .int x5]) (rest := [.int x5, .ref z_27]) ⟨hx, hb, hml, hown, hts⟩ hw hM8 hle_u_33 (fun _ _ => ⟨callB_of 2 hts (xgood w_944) rfl rfl rfl (hts _ (xm w_8)) (hts _ (xm w_941)) ⟨by decide, by decide, by decide +kernel⟩ ⟨Nat.le_of_ble_eq_true rfl, Nat.le_of_ble_eq_true rfl⟩, (hts _ (xm w_943)), (hts _ (xm wp_39))⟩) (qc := (R_M, F_M, 14)) rfl rfl h9 rfl hl.1 rfl (Nat.le_of_ble_eq_true rfl) d_M_choose_73 (fun H locs hw => ?_)
        refine W.eq (g2 := F0 m 76 ls [.int r_34, .int x5, .ref z_27]) rfl ?_
        refine lv_goto (tgt := 87) hx hb d_M_choose_76 (by decide) ?_
        exact w9 p e s m args below meth c A H locs ls F hw (lv_sub hl [0, 1, 2, 3, 4, 5] rfl)
set_option maxRecDepth 100000 in
set_option maxHeartbeats 4000000 in
theorem t_M_choose_J94 (l : Launch) (Z : XZ) (u0 : PS) {K : PS → Prop} (x0 : Nat) (x1 : Int32) (u : PS) (k : (p_M_choose_J94 K x0 x1 u)) : XN l Z i_M_choose u0 (kV K) u 94 [(0, .ref x0), (1, .int x1)] [] := by
  unfold p_M_choose_J94 at k
  obtain ⟨h2, k⟩ := k
  obtain ⟨_, u_35, ⟨rfl, k⟩, hM1⟩ := c_M_take l Z x0 x1 u _ k
  have hle_u_35 : x_le u_35 u_35 := x_le.rf u_35
  have hle_u : x_le u u_35 := (hM1.1).tr hle_u_35
  refine ⟨none, u_35, ⟨rfl, k⟩, hle_u, ?_⟩
  intro p e s m args below meth c A H locs ls F hw hl
  obtain ⟨⟨hx, hb, hml, hown, hts⟩, hr, hlocks, hmn⟩ := id F
  refine lv_aload_n hx hb d_M_choose_94 rfl (lv_at hl 0 rfl) ?_
  refine lv_iload_n hx hb d_M_choose_95 rfl (lv_at hl 1 rfl) ?_
  refine xr_cV (As := [.int x1]) (rest := []) ⟨hx, hb, hml, hown, hts⟩ hw hM1 hle_u_35 (fun _ _ => ⟨callB_of 1 hts (xgood w_951) rfl rfl rfl (hts _ (xm w_8)) (hts _ (xm w_948)) ⟨by decide, by decide, by decide +kernel⟩ ⟨Nat.le_of_ble_eq_true rfl, Nat.le_of_ble_eq_true rfl⟩, (hts _ (xm w_950)), (hts _ (xm wp_40))⟩) (qc := (R_M, F_M, 14)) rfl rfl h2 rfl hl.1 rfl (Nat.le_of_ble_eq_true rfl) d_M_choose_96 (fun H locs hw => ?_)
  refine W.eq (g2 := F0 m 99 ls []) rfl ?_
  exact xr_vret F rfl hw d_M_choose_99
set_option maxRecDepth 100000 in
set_option maxHeartbeats 4000000 in
theorem t_M_choose_J35 (l : Launch) (Z : XZ) (u0 : PS) {K : PS → Prop} (x0 : Nat) (x1 : Int32) (x2 : Int32) (x3 : Int32) (x4 : Int32) (s0 : Nat) (s1 : Int32) (u : PS) (k : (p_M_choose_J35 K x0 x1 x2 x3 x4 s0 s1 u)) : XN l Z i_M_choose u0 (kV K) u 35 [(0, .ref x0), (1, .int x1), (2, .int x2), (3, .int x3), (4, .int x4)] [.int s1, .ref s0] := by
  unfold p_M_choose_J35 at k
  obtain ⟨h2, k⟩ := k
  obtain ⟨_, u_25, ⟨r_26, rfl, k⟩, hM1⟩ := c_M_refuse l Z s0 s1 (0 : Int32) u _ k
  by_cases hc3 : r_26 = 0
  · have k := k.2 hc3
    obtain ⟨n4, k⟩ := k
    have hx6 : ∀ (v5 : PS), (p_M_choose_J94 K x0 x1 v5) → XN l Z i_M_choose u0 (kV K) v5 94 [(0, .ref x0), (1, .int x1)] [] := by
      intro v5 k
      obtain ⟨rv, v9, hK, hle_v5, w9⟩ := t_M_choose_J94 l Z u0 x0 x1 v5 k
      refine ⟨rv, v9, hK, hle_v5, ?_⟩
      intro p e s m args below meth c A H locs ls F hw hl
      obtain ⟨⟨hx, hb, hml, hown, hts⟩, hr, hlocks, hmn⟩ := id F
      exact w9 p e s m args below meth c A H locs ls F hw (lv_sub hl [0, 1] rfl)
    obtain ⟨rv, v9, hK, hle_u_25, w9⟩ := t_M_choose_L45 l Z u0 x0 x1 x2 x3 x4 hx6 n4 (0 : Int32) u_25 k
    have hle_u : x_le u v9 := (hM1.1).tr hle_u_25
    refine ⟨rv, v9, hK, hle_u, ?_⟩
    intro p e s m args below meth c A H locs ls F hw hl
    obtain ⟨⟨hx, hb, hml, hown, hts⟩, hr, hlocks, hmn⟩ := id F
    refine lv_iconst (v := 0) hx hb d_M_choose_35 (by decide) ?_
    refine xr_cV (As := [.int s1, .int 0]) (rest := []) ⟨hx, hb, hml, hown, hts⟩ hw hM1 hle_u_25 (fun _ _ => ⟨callB_of 2 hts (xgood w_929) rfl rfl rfl (hts _ (xm w_8)) (hts _ (xm w_926)) ⟨by decide, by decide, by decide +kernel⟩ ⟨Nat.le_of_ble_eq_true rfl, Nat.le_of_ble_eq_true rfl⟩, (hts _ (xm w_928)), (hts _ (xm wp_38))⟩) (qc := (R_M, F_M, 14)) rfl rfl h2 rfl hl.1 rfl (Nat.le_of_ble_eq_true rfl) d_M_choose_36 (fun H locs hw => ?_)
    refine W.eq (g2 := F0 m 39 ls [.int r_26]) rfl ?_
    refine lv_if_ne (tgt := 99) hx hb d_M_choose_39 (by decide) (fun c9 => absurd hc3 c9) (fun _ => ?_)
    refine lv_iconst (v := 0) hx hb d_M_choose_42 (by decide) ?_
    refine lv_istore (lv' := [(5, .int 0), (0, .ref x0), (1, .int x1), (2, .int x2), (3, .int x3), (4, .int x4)]) hx hb d_M_choose_43 hl (by decide) rfl (fun ls hl => ?_)
    exact w9 p e s m args below meth c A H locs ls F hw (lv_sub hl [1, 2, 3, 4, 5, 0] rfl)
  · have k := k.1 hc3
    have hle_u_25 : x_le u_25 u_25 := x_le.rf u_25
    have hle_u : x_le u u_25 := (hM1.1).tr hle_u_25
    refine ⟨none, u_25, ⟨rfl, k⟩, hle_u, ?_⟩
    intro p e s m args below meth c A H locs ls F hw hl
    obtain ⟨⟨hx, hb, hml, hown, hts⟩, hr, hlocks, hmn⟩ := id F
    refine lv_iconst (v := 0) hx hb d_M_choose_35 (by decide) ?_
    refine xr_cV (As := [.int s1, .int 0]) (rest := []) ⟨hx, hb, hml, hown, hts⟩ hw hM1 hle_u_25 (fun _ _ => ⟨callB_of 2 hts (xgood w_929) rfl rfl rfl (hts _ (xm w_8)) (hts _ (xm w_926)) ⟨by decide, by decide, by decide +kernel⟩ ⟨Nat.le_of_ble_eq_true rfl, Nat.le_of_ble_eq_true rfl⟩, (hts _ (xm w_928)), (hts _ (xm wp_38))⟩) (qc := (R_M, F_M, 14)) rfl rfl h2 rfl hl.1 rfl (Nat.le_of_ble_eq_true rfl) d_M_choose_36 (fun H locs hw => ?_)
    refine W.eq (g2 := F0 m 39 ls [.int r_26]) rfl ?_
    refine lv_if_ne (tgt := 99) hx hb d_M_choose_39 (by decide) (fun _ => ?_) (fun c9 => absurd c9 hc3)
    exact xr_vret F rfl hw d_M_choose_99
set_option maxRecDepth 100000 in
set_option maxHeartbeats 4000000 in
theorem t_M_choose_J30 (l : Launch) (Z : XZ) (u0 : PS) {K : PS → Prop} (x0 : Nat) (x1 : Int32) (x2 : Int32) (x3 : Int32) (x4 : Int32) (s0 : Nat) (u : PS) (k : (p_M_choose_J30 K x0 x1 x2 x3 x4 s0 u)) : XN l Z i_M_choose u0 (kV K) u 30 [(0, .ref x0), (1, .int x1), (2, .int x2), (3, .int x3), (4, .int x4)] [.ref s0] := by
  unfold p_M_choose_J30 at k
  obtain ⟨rv, v9, hK, hle_u, w9⟩ := t_M_choose_J35 l Z u0 x0 x1 x2 x3 x4 s0 (1 : Int32) u k
  refine ⟨rv, v9, hK, hle_u, ?_⟩
  intro p e s m args below meth c A H locs ls F hw hl
  obtain ⟨⟨hx, hb, hml, hown, hts⟩, hr, hlocks, hmn⟩ := id F
  refine lv_iconst (v := 1) hx hb d_M_choose_30 (by decide) ?_
  refine lv_goto (tgt := 35) hx hb d_M_choose_31 (by decide) ?_
  exact w9 p e s m args below meth c A H locs ls F hw (lv_sub hl [0, 1, 2, 3, 4] rfl)
set_option maxRecDepth 100000 in
set_option maxHeartbeats 4000000 in
theorem c_M_choose (l : Launch) (Z : XZ) (x0 : Nat) (x1 : Int32) (x2 : Int32) (x3 : Int32) (x4 : Int32) (u : PS) (K : PS → Prop) (k : p_M_choose x0 x1 x2 x3 x4 u K) : ∃ (rv : Option Value) (u1 : PS), (kV K) rv u1 ∧ XMet l Z i_M_choose [.ref x0, .int x1, .int x2, .int x3, .int x4] u rv u1 := by
  refine x_met (by decide) rfl (Nat.le_of_ble_eq_true rfl) ?_
  show XN l Z i_M_choose u (kV K) u 0 [(0, .ref x0), (1, .int x1), (2, .int x2), (3, .int x3), (4, .int x4)] []
  unfold p_M_choose at k
  obtain ⟨_, u_23, ⟨r_24, rfl, k⟩, hM1⟩ := c_M_isPlace l Z x1 u _ k
  by_cases hc2 : r_24 = 0
  · have k := k.1 hc2
    obtain ⟨rv, v9, hK, hle_u_23, w9⟩ := t_M_choose_J30 l Z u x0 x1 x2 x3 x4 x0 u_23 k
    have hle_u : x_le u v9 := (hM1.1).tr hle_u_23
    refine ⟨rv, v9, hK, hle_u, ?_⟩
    intro p e s m args below meth c A H locs ls F hw hl
    obtain ⟨⟨hx, hb, hml, hown, hts⟩, hr, hlocks, hmn⟩ := id F
    refine lv_aload_n hx hb d_M_choose_0 rfl (lv_at hl 0 rfl) ?_
    refine lv_iload_n hx hb d_M_choose_1 rfl (lv_at hl 1 rfl) ?_
    refine xr_cS (As := [.int x1]) (rest := [.ref x0]) ⟨hx, hb, hml, hown, hts⟩ hw hM1 hle_u_23 (fun _ _ => ⟨callB_of 1 hts (xgood w_922) rfl rfl rfl (hts _ (xm w_8)) (hts _ (xm w_920)) ⟨by decide, by decide, by decide +kernel⟩ ⟨Nat.le_of_ble_eq_true rfl, Nat.le_of_ble_eq_true rfl⟩, (hts _ (xm w_921))⟩) rfl hl.1 rfl (Nat.le_of_ble_eq_true rfl) d_M_choose_2 (fun H locs hw => ?_)
    refine W.eq (g2 := F0 m 5 ls [.int r_24, .ref x0]) rfl ?_
    refine lv_if_eq (tgt := 30) hx hb d_M_choose_5 (by decide) (fun _ => ?_) (fun c9 => absurd hc2 c9)
    exact w9 p e s m args below meth c A H locs ls F hw (lv_sub hl [0, 1, 2, 3, 4] rfl)
  · have k := k.2 hc2
    obtain ⟨_, u_36, ⟨r_37, rfl, k⟩, hM3⟩ := c_M_isPlace l Z x2 u_23 _ k
    by_cases hc4 : r_37 = 0
    · have k := k.1 hc4
      obtain ⟨rv, v9, hK, hle_u_36, w9⟩ := t_M_choose_J30 l Z u x0 x1 x2 x3 x4 x0 u_36 k
      have hle_u_23 : x_le u_23 v9 := (hM3.1).tr hle_u_36
      have hle_u : x_le u v9 := (hM1.1).tr hle_u_23
      refine ⟨rv, v9, hK, hle_u, ?_⟩
      intro p e s m args below meth c A H locs ls F hw hl
      obtain ⟨⟨hx, hb, hml, hown, hts⟩, hr, hlocks, hmn⟩ := id F
      refine lv_aload_n hx hb d_M_choose_0 rfl (lv_at hl 0 rfl) ?_
      refine lv_iload_n hx hb d_M_choose_1 rfl (lv_at hl 1 rfl) ?_
      refine xr_cS (As := [.int x1]) (rest := [.ref x0]) ⟨hx, hb, hml, hown, hts⟩ hw hM1 hle_u_23 (fun _ _ => ⟨callB_of 1 hts (xgood w_922) rfl rfl rfl (hts _ (xm w_8)) (hts _ (xm w_920)) ⟨by decide, by decide, by decide +kernel⟩ ⟨Nat.le_of_ble_eq_true rfl, Nat.le_of_ble_eq_true rfl⟩, (hts _ (xm w_921))⟩) rfl hl.1 rfl (Nat.le_of_ble_eq_true rfl) d_M_choose_2 (fun H locs hw => ?_)
      refine W.eq (g2 := F0 m 5 ls [.int r_24, .ref x0]) rfl ?_
      refine lv_if_eq (tgt := 30) hx hb d_M_choose_5 (by decide) (fun c9 => absurd c9 hc2) (fun _ => ?_)
      refine lv_iload_n hx hb d_M_choose_8 rfl (lv_at hl 2 rfl) ?_
      refine xr_cS (As := [.int x2]) (rest := [.ref x0]) ⟨hx, hb, hml, hown, hts⟩ hw hM3 hle_u_36 (fun _ _ => ⟨callB_of 1 hts (xgood w_922) rfl rfl rfl (hts _ (xm w_8)) (hts _ (xm w_920)) ⟨by decide, by decide, by decide +kernel⟩ ⟨Nat.le_of_ble_eq_true rfl, Nat.le_of_ble_eq_true rfl⟩, (hts _ (xm w_921))⟩) rfl hl.1 rfl (Nat.le_of_ble_eq_true rfl) d_M_choose_9 (fun H locs hw => ?_)
      refine W.eq (g2 := F0 m 12 ls [.int r_37, .ref x0]) rfl ?_
      refine lv_if_eq (tgt := 30) hx hb d_M_choose_12 (by decide) (fun _ => ?_) (fun c9 => absurd hc4 c9)
      exact w9 p e s m args below meth c A H locs ls F hw (lv_sub hl [0, 1, 2, 3, 4] rfl)
    · have k := k.2 hc4
      obtain ⟨_, u_38, ⟨r_39, rfl, k⟩, hM5⟩ := c_M_isPlace l Z x3 u_36 _ k
      by_cases hc6 : r_39 = 0
      · have k := k.1 hc6
        obtain ⟨rv, v9, hK, hle_u_38, w9⟩ := t_M_choose_J30 l Z u x0 x1 x2 x3 x4 x0 u_38 k
        have hle_u_36 : x_le u_36 v9 := (hM5.1).tr hle_u_38
        have hle_u_23 : x_le u_23 v9 := (hM3.1).tr hle_u_36
        have hle_u : x_le u v9 := (hM1.1).tr hle_u_23
        refine ⟨rv, v9, hK, hle_u, ?_⟩
        intro p e s m args below meth c A H locs ls F hw hl
        obtain ⟨⟨hx, hb, hml, hown, hts⟩, hr, hlocks, hmn⟩ := id F
        refine lv_aload_n hx hb d_M_choose_0 rfl (lv_at hl 0 rfl) ?_
        refine lv_iload_n hx hb d_M_choose_1 rfl (lv_at hl 1 rfl) ?_
        refine xr_cS (As := [.int x1]) (rest := [.ref x0]) ⟨hx, hb, hml, hown, hts⟩ hw hM1 hle_u_23 (fun _ _ => ⟨callB_of 1 hts (xgood w_922) rfl rfl rfl (hts _ (xm w_8)) (hts _ (xm w_920)) ⟨by decide, by decide, by decide +kernel⟩ ⟨Nat.le_of_ble_eq_true rfl, Nat.le_of_ble_eq_true rfl⟩, (hts _ (xm w_921))⟩) rfl hl.1 rfl (Nat.le_of_ble_eq_true rfl) d_M_choose_2 (fun H locs hw => ?_)
        refine W.eq (g2 := F0 m 5 ls [.int r_24, .ref x0]) rfl ?_
        refine lv_if_eq (tgt := 30) hx hb d_M_choose_5 (by decide) (fun c9 => absurd c9 hc2) (fun _ => ?_)
        refine lv_iload_n hx hb d_M_choose_8 rfl (lv_at hl 2 rfl) ?_
        refine xr_cS (As := [.int x2]) (rest := [.ref x0]) ⟨hx, hb, hml, hown, hts⟩ hw hM3 hle_u_36 (fun _ _ => ⟨callB_of 1 hts (xgood w_922) rfl rfl rfl (hts _ (xm w_8)) (hts _ (xm w_920)) ⟨by decide, by decide, by decide +kernel⟩ ⟨Nat.le_of_ble_eq_true rfl, Nat.le_of_ble_eq_true rfl⟩, (hts _ (xm w_921))⟩) rfl hl.1 rfl (Nat.le_of_ble_eq_true rfl) d_M_choose_9 (fun H locs hw => ?_)
        refine W.eq (g2 := F0 m 12 ls [.int r_37, .ref x0]) rfl ?_
        refine lv_if_eq (tgt := 30) hx hb d_M_choose_12 (by decide) (fun c9 => absurd c9 hc4) (fun _ => ?_)
        refine lv_iload_n hx hb d_M_choose_15 rfl (lv_at hl 3 rfl) ?_
        refine xr_cS (As := [.int x3]) (rest := [.ref x0]) ⟨hx, hb, hml, hown, hts⟩ hw hM5 hle_u_38 (fun _ _ => ⟨callB_of 1 hts (xgood w_922) rfl rfl rfl (hts _ (xm w_8)) (hts _ (xm w_920)) ⟨by decide, by decide, by decide +kernel⟩ ⟨Nat.le_of_ble_eq_true rfl, Nat.le_of_ble_eq_true rfl⟩, (hts _ (xm w_921))⟩) rfl hl.1 rfl (Nat.le_of_ble_eq_true rfl) d_M_choose_16 (fun H locs hw => ?_)
        refine W.eq (g2 := F0 m 19 ls [.int r_39, .ref x0]) rfl ?_
        refine lv_if_eq (tgt := 30) hx hb d_M_choose_19 (by decide) (fun _ => ?_) (fun c9 => absurd hc6 c9)
        exact w9 p e s m args below meth c A H locs ls F hw (lv_sub hl [0, 1, 2, 3, 4] rfl)
      · have k := k.2 hc6
        obtain ⟨_, u_40, ⟨r_41, rfl, k⟩, hM7⟩ := c_M_isPlace l Z x4 u_38 _ k
        by_cases hc8 : r_41 = 0
        · have k := k.2 hc8
          obtain ⟨rv, v9, hK, hle_u_40, w9⟩ := t_M_choose_J30 l Z u x0 x1 x2 x3 x4 x0 u_40 k
          have hle_u_38 : x_le u_38 v9 := (hM7.1).tr hle_u_40
          have hle_u_36 : x_le u_36 v9 := (hM5.1).tr hle_u_38
          have hle_u_23 : x_le u_23 v9 := (hM3.1).tr hle_u_36
          have hle_u : x_le u v9 := (hM1.1).tr hle_u_23
          refine ⟨rv, v9, hK, hle_u, ?_⟩
          intro p e s m args below meth c A H locs ls F hw hl
          obtain ⟨⟨hx, hb, hml, hown, hts⟩, hr, hlocks, hmn⟩ := id F
          refine lv_aload_n hx hb d_M_choose_0 rfl (lv_at hl 0 rfl) ?_
          refine lv_iload_n hx hb d_M_choose_1 rfl (lv_at hl 1 rfl) ?_
          refine xr_cS (As := [.int x1]) (rest := [.ref x0]) ⟨hx, hb, hml, hown, hts⟩ hw hM1 hle_u_23 (fun _ _ => ⟨callB_of 1 hts (xgood w_922) rfl rfl rfl (hts _ (xm w_8)) (hts _ (xm w_920)) ⟨by decide, by decide, by decide +kernel⟩ ⟨Nat.le_of_ble_eq_true rfl, Nat.le_of_ble_eq_true rfl⟩, (hts _ (xm w_921))⟩) rfl hl.1 rfl (Nat.le_of_ble_eq_true rfl) d_M_choose_2 (fun H locs hw => ?_)
          refine W.eq (g2 := F0 m 5 ls [.int r_24, .ref x0]) rfl ?_
          refine lv_if_eq (tgt := 30) hx hb d_M_choose_5 (by decide) (fun c9 => absurd c9 hc2) (fun _ => ?_)
          refine lv_iload_n hx hb d_M_choose_8 rfl (lv_at hl 2 rfl) ?_
          refine xr_cS (As := [.int x2]) (rest := [.ref x0]) ⟨hx, hb, hml, hown, hts⟩ hw hM3 hle_u_36 (fun _ _ => ⟨callB_of 1 hts (xgood w_922) rfl rfl rfl (hts _ (xm w_8)) (hts _ (xm w_920)) ⟨by decide, by decide, by decide +kernel⟩ ⟨Nat.le_of_ble_eq_true rfl, Nat.le_of_ble_eq_true rfl⟩, (hts _ (xm w_921))⟩) rfl hl.1 rfl (Nat.le_of_ble_eq_true rfl) d_M_choose_9 (fun H locs hw => ?_)
          refine W.eq (g2 := F0 m 12 ls [.int r_37, .ref x0]) rfl ?_
          refine lv_if_eq (tgt := 30) hx hb d_M_choose_12 (by decide) (fun c9 => absurd c9 hc4) (fun _ => ?_)
          refine lv_iload_n hx hb d_M_choose_15 rfl (lv_at hl 3 rfl) ?_
          refine xr_cS (As := [.int x3]) (rest := [.ref x0]) ⟨hx, hb, hml, hown, hts⟩ hw hM5 hle_u_38 (fun _ _ => ⟨callB_of 1 hts (xgood w_922) rfl rfl rfl (hts _ (xm w_8)) (hts _ (xm w_920)) ⟨by decide, by decide, by decide +kernel⟩ ⟨Nat.le_of_ble_eq_true rfl, Nat.le_of_ble_eq_true rfl⟩, (hts _ (xm w_921))⟩) rfl hl.1 rfl (Nat.le_of_ble_eq_true rfl) d_M_choose_16 (fun H locs hw => ?_)
          refine W.eq (g2 := F0 m 19 ls [.int r_39, .ref x0]) rfl ?_
          refine lv_if_eq (tgt := 30) hx hb d_M_choose_19 (by decide) (fun c9 => absurd c9 hc6) (fun _ => ?_)
          refine lv_iload hx hb d_M_choose_22 (lv_at hl 4 rfl) ?_
          refine xr_cS (As := [.int x4]) (rest := [.ref x0]) ⟨hx, hb, hml, hown, hts⟩ hw hM7 hle_u_40 (fun _ _ => ⟨callB_of 1 hts (xgood w_922) rfl rfl rfl (hts _ (xm w_8)) (hts _ (xm w_920)) ⟨by decide, by decide, by decide +kernel⟩ ⟨Nat.le_of_ble_eq_true rfl, Nat.le_of_ble_eq_true rfl⟩, (hts _ (xm w_921))⟩) rfl hl.1 rfl (Nat.le_of_ble_eq_true rfl) d_M_choose_24 (fun H locs hw => ?_)
          refine W.eq (g2 := F0 m 27 ls [.int r_41, .ref x0]) rfl ?_
          refine lv_if_ne (tgt := 34) hx hb d_M_choose_27 (by decide) (fun c9 => absurd hc8 c9) (fun _ => ?_)
          exact w9 p e s m args below meth c A H locs ls F hw (lv_sub hl [0, 1, 2, 3, 4] rfl)
        · have k := k.1 hc8
          obtain ⟨rv, v9, hK, hle_u_40, w9⟩ := t_M_choose_J35 l Z u x0 x1 x2 x3 x4 x0 (0 : Int32) u_40 k
          have hle_u_38 : x_le u_38 v9 := (hM7.1).tr hle_u_40
          have hle_u_36 : x_le u_36 v9 := (hM5.1).tr hle_u_38
          have hle_u_23 : x_le u_23 v9 := (hM3.1).tr hle_u_36
          have hle_u : x_le u v9 := (hM1.1).tr hle_u_23
          refine ⟨rv, v9, hK, hle_u, ?_⟩
          intro p e s m args below meth c A H locs ls F hw hl
          obtain ⟨⟨hx, hb, hml, hown, hts⟩, hr, hlocks, hmn⟩ := id F
          refine lv_aload_n hx hb d_M_choose_0 rfl (lv_at hl 0 rfl) ?_
          refine lv_iload_n hx hb d_M_choose_1 rfl (lv_at hl 1 rfl) ?_
          refine xr_cS (As := [.int x1]) (rest := [.ref x0]) ⟨hx, hb, hml, hown, hts⟩ hw hM1 hle_u_23 (fun _ _ => ⟨callB_of 1 hts (xgood w_922) rfl rfl rfl (hts _ (xm w_8)) (hts _ (xm w_920)) ⟨by decide, by decide, by decide +kernel⟩ ⟨Nat.le_of_ble_eq_true rfl, Nat.le_of_ble_eq_true rfl⟩, (hts _ (xm w_921))⟩) rfl hl.1 rfl (Nat.le_of_ble_eq_true rfl) d_M_choose_2 (fun H locs hw => ?_)
          refine W.eq (g2 := F0 m 5 ls [.int r_24, .ref x0]) rfl ?_
          refine lv_if_eq (tgt := 30) hx hb d_M_choose_5 (by decide) (fun c9 => absurd c9 hc2) (fun _ => ?_)
          refine lv_iload_n hx hb d_M_choose_8 rfl (lv_at hl 2 rfl) ?_
          refine xr_cS (As := [.int x2]) (rest := [.ref x0]) ⟨hx, hb, hml, hown, hts⟩ hw hM3 hle_u_36 (fun _ _ => ⟨callB_of 1 hts (xgood w_922) rfl rfl rfl (hts _ (xm w_8)) (hts _ (xm w_920)) ⟨by decide, by decide, by decide +kernel⟩ ⟨Nat.le_of_ble_eq_true rfl, Nat.le_of_ble_eq_true rfl⟩, (hts _ (xm w_921))⟩) rfl hl.1 rfl (Nat.le_of_ble_eq_true rfl) d_M_choose_9 (fun H locs hw => ?_)
          refine W.eq (g2 := F0 m 12 ls [.int r_37, .ref x0]) rfl ?_
          refine lv_if_eq (tgt := 30) hx hb d_M_choose_12 (by decide) (fun c9 => absurd c9 hc4) (fun _ => ?_)
          refine lv_iload_n hx hb d_M_choose_15 rfl (lv_at hl 3 rfl) ?_
          refine xr_cS (As := [.int x3]) (rest := [.ref x0]) ⟨hx, hb, hml, hown, hts⟩ hw hM5 hle_u_38 (fun _ _ => ⟨callB_of 1 hts (xgood w_922) rfl rfl rfl (hts _ (xm w_8)) (hts _ (xm w_920)) ⟨by decide, by decide, by decide +kernel⟩ ⟨Nat.le_of_ble_eq_true rfl, Nat.le_of_ble_eq_true rfl⟩, (hts _ (xm w_921))⟩) rfl hl.1 rfl (Nat.le_of_ble_eq_true rfl) d_M_choose_16 (fun H locs hw => ?_)
          refine W.eq (g2 := F0 m 19 ls [.int r_39, .ref x0]) rfl ?_
          refine lv_if_eq (tgt := 30) hx hb d_M_choose_19 (by decide) (fun c9 => absurd c9 hc6) (fun _ => ?_)
          refine lv_iload hx hb d_M_choose_22 (lv_at hl 4 rfl) ?_
          refine xr_cS (As := [.int x4]) (rest := [.ref x0]) ⟨hx, hb, hml, hown, hts⟩ hw hM7 hle_u_40 (fun _ _ => ⟨callB_of 1 hts (xgood w_922) rfl rfl rfl (hts _ (xm w_8)) (hts _ (xm w_920)) ⟨by decide, by decide, by decide +kernel⟩ ⟨Nat.le_of_ble_eq_true rfl, Nat.le_of_ble_eq_true rfl⟩, (hts _ (xm w_921))⟩) rfl hl.1 rfl (Nat.le_of_ble_eq_true rfl) d_M_choose_24 (fun H locs hw => ?_)
          refine W.eq (g2 := F0 m 27 ls [.int r_41, .ref x0]) rfl ?_
          refine lv_if_ne (tgt := 34) hx hb d_M_choose_27 (by decide) (fun _ => ?_) (fun c9 => absurd c9 hc8)
          refine lv_iconst (v := 0) hx hb d_M_choose_34 (by decide) ?_
          exact w9 p e s m args below meth c A H locs ls F hw (lv_sub hl [0, 1, 2, 3, 4] rfl)
set_option maxRecDepth 100000 in
set_option maxHeartbeats 4000000 in
theorem t_M_fix_J107 (l : Launch) (Z : XZ) (u0 : PS) {Kv : Option Value → PS → Prop} {R : Int32 → PS → Prop} {E117 : PS → Prop} (x0 : Nat) (x1 : Int32) (x2 : Int32) (x3 : Int32) (x4 : Int32) (x6 : Int32) (s0 : Nat) (s1 : Int32) (s2 : Nat) (s3 : Int32) (s4 : Int32) (u : PS) (hR : ∀ (y6 : Int32) (v : PS), R y6 v → XN l Z i_M_fix u0 Kv v 68 [(0, .ref x0), (1, .int x1), (2, .int x2), (3, .int x3), (4, .int x4), (6, .int y6)] []) (hE117 : ∀ (v : PS), E117 v → XN l Z i_M_fix u0 Kv v 117 [(0, .ref x0), (1, .int x1)] []) (k : (p_M_fix_J107 R E117 x0 x1 x2 x3 x4 x6 s0 s1 s2 s3 s4 u)) : XN l Z i_M_fix u0 Kv u 107 [(0, .ref x0), (1, .int x1), (2, .int x2), (3, .int x3), (4, .int x4), (6, .int x6)] [.int s4, .int s3, .ref s2, .int s1, .ref s0] := by
  unfold p_M_fix_J107 at k
  obtain ⟨h2, k⟩ := k
  obtain ⟨_, u_24, ⟨r_25, rfl, k⟩, hM1⟩ := c_M_is l Z s2 s3 s4 u _ k
  obtain ⟨u_26, h3, k⟩ := k
  obtain ⟨y4, ey4⟩ : ∃ y9 : Int32, y9 = x6 + 1 := ⟨_, rfl⟩
  have k := k y4 ey4
  obtain ⟨rv, v9, hK, hle_u_26, w9⟩ := hR y4 u_26 k
  have hle_u_24 : x_le u_24 v9 := (h3.le).tr hle_u_26
  have hle_u : x_le u v9 := (hM1.1).tr hle_u_24
  refine ⟨rv, v9, hK, hle_u, ?_⟩
  intro p e s m args below meth c A H locs ls F hw hl
  obtain ⟨⟨hx, hb, hml, hown, hts⟩, hr, hlocks, hmn⟩ := id F
  refine xr_cV (As := [.int s3, .int s4]) (rest := [.int s1, .ref s0]) ⟨hx, hb, hml, hown, hts⟩ hw hM1 hle_u_24 (fun _ _ => ⟨callB_of 2 hts (xgood w_944) rfl rfl rfl (hts _ (xm w_8)) (hts _ (xm w_941)) ⟨by decide, by decide, by decide +kernel⟩ ⟨Nat.le_of_ble_eq_true rfl, Nat.le_of_ble_eq_true rfl⟩, (hts _ (xm w_943)), (hts _ (xm wp_39))⟩) (qc := (R_M, F_M, 14)) rfl rfl h2 rfl hl.1 rfl (Nat.le_of_ble_eq_true rfl) d_M_fix_107 (fun H locs hw => ?_)
  refine W.eq (g2 := F0 m 110 ls [.int r_25, .int s1, .ref s0]) rfl ?_
  refine xr_zast hx hb hw h3 d_M_fix_110 (fun H locs hw => ?_)
  refine lv_iinc (v := y4) (lv' := [(6, .int y4), (0, .ref x0), (1, .int x1), (2, .int x2), (3, .int x3), (4, .int x4)]) hx hb d_M_fix_111 hl (k := 5) rfl (by subst ey4; rfl) (by decide) rfl (fun ls hl => ?_)
  refine lv_goto (tgt := 68) hx hb d_M_fix_114 (by decide) ?_
  exact w9 p e s m args below meth c A H locs ls F hw (lv_sub hl [1, 2, 3, 4, 5, 0] rfl)
set_option maxRecDepth 100000 in
set_option maxHeartbeats 4000000 in
theorem t_M_fix_L68 (l : Launch) (Z : XZ) (u0 : PS) {Kv : Option Value → PS → Prop} {E117 : PS → Prop} (x0 : Nat) (x1 : Int32) (x2 : Int32) (x3 : Int32) (x4 : Int32) (hE117 : ∀ (v : PS), E117 v → XN l Z i_M_fix u0 Kv v 117 [(0, .ref x0), (1, .int x1)] []) : ∀ (n : Nat) (x6 : Int32) (u : PS), p_M_fix_L68 x0 x1 x2 x3 x4 E117 n x6 u → XN l Z i_M_fix u0 Kv u 68 [(0, .ref x0), (1, .int x1), (2, .int x2), (3, .int x3), (4, .int x4), (6, .int x6)] [] := by
  intro n
  induction n with
  | zero => intro x6 u k; exact False.elim k
  | succ n ih =>
    intro x6 u k
    rw [p_M_fix_L68] at k
    by_cases hc1 : 1024 ≤ x6
    · have k := k.1 hc1
      obtain ⟨rv, v9, hK, hle_u, w9⟩ := hE117 u k
      refine ⟨rv, v9, hK, hle_u, ?_⟩
      intro p e s m args below meth c A H locs ls F hw hl
      obtain ⟨⟨hx, hb, hml, hown, hts⟩, hr, hlocks, hmn⟩ := id F
      refine lv_iload hx hb d_M_fix_68 (lv_at hl 5 rfl) ?_
      refine lv_sipush (v := 1024) hx hb d_M_fix_70 (by decide) ?_
      refine lv_icmp_ge (tgt := 117) hx hb d_M_fix_73 (by decide) (fun _ => ?_) (fun c9 => absurd hc1 c9)
      exact w9 p e s m args below meth c A H locs ls F hw (lv_sub hl [0, 1] rfl)
    · have k := k.2 hc1
      obtain ⟨z_23, h2, k⟩ := k
      by_cases hc3 : x4 = 1
      · have k := k.2 hc3
        obtain ⟨rv, v9, hK, hle_u, w9⟩ := t_M_fix_J107 l Z u0 x0 x1 x2 x3 x4 x6 z_23 x6 x0 x2 (x6 ||| ((1 : Int32) <<< (x3 &&& 31))) u ih hE117 k
        refine ⟨rv, v9, hK, hle_u, ?_⟩
        intro p e s m args below meth c A H locs ls F hw hl
        obtain ⟨⟨hx, hb, hml, hown, hts⟩, hr, hlocks, hmn⟩ := id F
        refine lv_iload hx hb d_M_fix_68 (lv_at hl 5 rfl) ?_
        refine lv_sipush (v := 1024) hx hb d_M_fix_70 (by decide) ?_
        refine lv_icmp_ge (tgt := 117) hx hb d_M_fix_73 (by decide) (fun c9 => absurd c9 hc1) (fun _ => ?_)
        refine lv_aload_n hx hb d_M_fix_76 rfl (lv_at hl 0 rfl) ?_
        refine xr_get hx hb hts (xmu uws_M) hown hw h2 rfl (by decide) (hts _ (xm w_870)) (fun _ h9 => h9) d_M_fix_77 ?_
        refine lv_iload hx hb d_M_fix_80 (lv_at hl 5 rfl) ?_
        refine lv_aload_n hx hb d_M_fix_82 rfl (lv_at hl 0 rfl) ?_
        refine lv_iload_n hx hb d_M_fix_83 rfl (lv_at hl 2 rfl) ?_
        refine lv_iload hx hb d_M_fix_84 (lv_at hl 4 rfl) ?_
        refine lv_iconst (v := 1) hx hb d_M_fix_86 (by decide) ?_
        refine lv_icmp_ne (tgt := 99) hx hb d_M_fix_87 (by decide) (fun c9 => absurd hc3 c9) (fun _ => ?_)
        refine lv_iload hx hb d_M_fix_90 (lv_at hl 5 rfl) ?_
        refine lv_iconst (v := 1) hx hb d_M_fix_92 (by decide) ?_
        refine lv_iload_n hx hb d_M_fix_93 rfl (lv_at hl 3 rfl) ?_
        refine lv_ishl hx hb d_M_fix_94 ?_
        refine lv_ior hx hb d_M_fix_95 ?_
        refine lv_goto (tgt := 107) hx hb d_M_fix_96 (by decide) ?_
        exact w9 p e s m args below meth c A H locs ls F hw (lv_sub hl [0, 1, 2, 3, 4, 5] rfl)
      · have k := k.1 hc3
        obtain ⟨rv, v9, hK, hle_u, w9⟩ := t_M_fix_J107 l Z u0 x0 x1 x2 x3 x4 x6 z_23 x6 x0 x2 (x6 &&& (((1 : Int32) <<< (x3 &&& 31)) ^^^ (-1 : Int32))) u ih hE117 k
        refine ⟨rv, v9, hK, hle_u, ?_⟩
        intro p e s m args below meth c A H locs ls F hw hl
        obtain ⟨⟨hx, hb, hml, hown, hts⟩, hr, hlocks, hmn⟩ := id F
        refine lv_iload hx hb d_M_fix_68 (lv_at hl 5 rfl) ?_
        refine lv_sipush (v := 1024) hx hb d_M_fix_70 (by decide) ?_
        refine lv_icmp_ge (tgt := 117) hx hb d_M_fix_73 (by decide) (fun c9 => absurd c9 hc1) (fun _ => ?_)
        refine lv_aload_n hx hb d_M_fix_76 rfl (lv_at hl 0 rfl) ?_
        refine xr_get hx hb hts (xmu uws_M) hown hw h2 rfl (by decide) (hts _ (xm w_870)) (fun _ h9 => h9) d_M_fix_77 ?_
        refine lv_iload hx hb d_M_fix_80 (lv_at hl 5 rfl) ?_
        refine lv_aload_n hx hb d_M_fix_82 rfl (lv_at hl 0 rfl) ?_
        refine lv_iload_n hx hb d_M_fix_83 rfl (lv_at hl 2 rfl) ?_
        refine lv_iload hx hb d_M_fix_84 (lv_at hl 4 rfl) ?_
        refine lv_iconst (v := 1) hx hb d_M_fix_86 (by decide) ?_
        refine lv_icmp_ne (tgt := 99) hx hb d_M_fix_87 (by decide) (fun _ => ?_) (fun c9 => absurd c9 hc3)
        refine lv_iload hx hb d_M_fix_99 (lv_at hl 5 rfl) ?_
        refine lv_iconst (v := 1) hx hb d_M_fix_101 (by decide) ?_
        refine lv_iload_n hx hb d_M_fix_102 rfl (lv_at hl 3 rfl) ?_
        refine lv_ishl hx hb d_M_fix_103 ?_
        refine lv_iconst (v := (-1)) hx hb d_M_fix_104 (by decide) ?_
        refine lv_ixor hx hb d_M_fix_105 ?_
        refine lv_iand hx hb d_M_fix_106 ?_
        exact w9 p e s m args below meth c A H locs ls F hw (lv_sub hl [0, 1, 2, 3, 4, 5] rfl)
set_option maxRecDepth 100000 in
set_option maxHeartbeats 4000000 in
theorem t_M_fix_J117 (l : Launch) (Z : XZ) (u0 : PS) {K : PS → Prop} (x0 : Nat) (x1 : Int32) (u : PS) (k : (p_M_fix_J117 K x0 x1 u)) : XN l Z i_M_fix u0 (kV K) u 117 [(0, .ref x0), (1, .int x1)] [] := by
  unfold p_M_fix_J117 at k
  obtain ⟨h2, k⟩ := k
  obtain ⟨_, u_27, ⟨rfl, k⟩, hM1⟩ := c_M_take l Z x0 x1 u _ k
  have hle_u_27 : x_le u_27 u_27 := x_le.rf u_27
  have hle_u : x_le u u_27 := (hM1.1).tr hle_u_27
  refine ⟨none, u_27, ⟨rfl, k⟩, hle_u, ?_⟩
  intro p e s m args below meth c A H locs ls F hw hl
  obtain ⟨⟨hx, hb, hml, hown, hts⟩, hr, hlocks, hmn⟩ := id F
  refine lv_aload_n hx hb d_M_fix_117 rfl (lv_at hl 0 rfl) ?_
  refine lv_iload_n hx hb d_M_fix_118 rfl (lv_at hl 1 rfl) ?_
  refine xr_cV (As := [.int x1]) (rest := []) ⟨hx, hb, hml, hown, hts⟩ hw hM1 hle_u_27 (fun _ _ => ⟨callB_of 1 hts (xgood w_951) rfl rfl rfl (hts _ (xm w_8)) (hts _ (xm w_948)) ⟨by decide, by decide, by decide +kernel⟩ ⟨Nat.le_of_ble_eq_true rfl, Nat.le_of_ble_eq_true rfl⟩, (hts _ (xm w_950)), (hts _ (xm wp_40))⟩) (qc := (R_M, F_M, 14)) rfl rfl h2 rfl hl.1 rfl (Nat.le_of_ble_eq_true rfl) d_M_fix_119 (fun H locs hw => ?_)
  refine W.eq (g2 := F0 m 122 ls []) rfl ?_
  exact xr_vret F rfl hw d_M_fix_122
set_option maxRecDepth 100000 in
set_option maxHeartbeats 4000000 in
theorem t_M_fix_J59 (l : Launch) (Z : XZ) (u0 : PS) {K : PS → Prop} (x0 : Nat) (x1 : Int32) (x2 : Int32) (x3 : Int32) (x4 : Int32) (s0 : Nat) (s1 : Int32) (s2 : Int32) (u : PS) (k : (p_M_fix_J59 K x0 x1 x2 x3 x4 s0 s1 s2 u)) : XN l Z i_M_fix u0 (kV K) u 59 [(0, .ref x0), (1, .int x1), (2, .int x2), (3, .int x3), (4, .int x4)] [.int s2, .int s1, .ref s0] := by
  unfold p_M_fix_J59 at k
  obtain ⟨h2, k⟩ := k
  obtain ⟨_, u_21, ⟨r_22, rfl, k⟩, hM1⟩ := c_M_refuse l Z s0 s1 s2 u _ k
  by_cases hc3 : r_22 = 0
  · have k := k.2 hc3
    obtain ⟨n4, k⟩ := k
    have hx6 : ∀ (v5 : PS), (p_M_fix_J117 K x0 x1 v5) → XN l Z i_M_fix u0 (kV K) v5 117 [(0, .ref x0), (1, .int x1)] [] := by
      intro v5 k
      obtain ⟨rv, v9, hK, hle_v5, w9⟩ := t_M_fix_J117 l Z u0 x0 x1 v5 k
      refine ⟨rv, v9, hK, hle_v5, ?_⟩
      intro p e s m args below meth c A H locs ls F hw hl
      obtain ⟨⟨hx, hb, hml, hown, hts⟩, hr, hlocks, hmn⟩ := id F
      exact w9 p e s m args below meth c A H locs ls F hw (lv_sub hl [0, 1] rfl)
    obtain ⟨rv, v9, hK, hle_u_21, w9⟩ := t_M_fix_L68 l Z u0 x0 x1 x2 x3 x4 hx6 n4 (0 : Int32) u_21 k
    have hle_u : x_le u v9 := (hM1.1).tr hle_u_21
    refine ⟨rv, v9, hK, hle_u, ?_⟩
    intro p e s m args below meth c A H locs ls F hw hl
    obtain ⟨⟨hx, hb, hml, hown, hts⟩, hr, hlocks, hmn⟩ := id F
    refine xr_cV (As := [.int s1, .int s2]) (rest := []) ⟨hx, hb, hml, hown, hts⟩ hw hM1 hle_u_21 (fun _ _ => ⟨callB_of 2 hts (xgood w_929) rfl rfl rfl (hts _ (xm w_8)) (hts _ (xm w_926)) ⟨by decide, by decide, by decide +kernel⟩ ⟨Nat.le_of_ble_eq_true rfl, Nat.le_of_ble_eq_true rfl⟩, (hts _ (xm w_928)), (hts _ (xm wp_38))⟩) (qc := (R_M, F_M, 14)) rfl rfl h2 rfl hl.1 rfl (Nat.le_of_ble_eq_true rfl) d_M_fix_59 (fun H locs hw => ?_)
    refine W.eq (g2 := F0 m 62 ls [.int r_22]) rfl ?_
    refine lv_if_ne (tgt := 122) hx hb d_M_fix_62 (by decide) (fun c9 => absurd hc3 c9) (fun _ => ?_)
    refine lv_iconst (v := 0) hx hb d_M_fix_65 (by decide) ?_
    refine lv_istore (lv' := [(6, .int 0), (0, .ref x0), (1, .int x1), (2, .int x2), (3, .int x3), (4, .int x4)]) hx hb d_M_fix_66 hl (by decide) rfl (fun ls hl => ?_)
    exact w9 p e s m args below meth c A H locs ls F hw (lv_sub hl [1, 2, 3, 4, 5, 0] rfl)
  · have k := k.1 hc3
    have hle_u_21 : x_le u_21 u_21 := x_le.rf u_21
    have hle_u : x_le u u_21 := (hM1.1).tr hle_u_21
    refine ⟨none, u_21, ⟨rfl, k⟩, hle_u, ?_⟩
    intro p e s m args below meth c A H locs ls F hw hl
    obtain ⟨⟨hx, hb, hml, hown, hts⟩, hr, hlocks, hmn⟩ := id F
    refine xr_cV (As := [.int s1, .int s2]) (rest := []) ⟨hx, hb, hml, hown, hts⟩ hw hM1 hle_u_21 (fun _ _ => ⟨callB_of 2 hts (xgood w_929) rfl rfl rfl (hts _ (xm w_8)) (hts _ (xm w_926)) ⟨by decide, by decide, by decide +kernel⟩ ⟨Nat.le_of_ble_eq_true rfl, Nat.le_of_ble_eq_true rfl⟩, (hts _ (xm w_928)), (hts _ (xm wp_38))⟩) (qc := (R_M, F_M, 14)) rfl rfl h2 rfl hl.1 rfl (Nat.le_of_ble_eq_true rfl) d_M_fix_59 (fun H locs hw => ?_)
    refine W.eq (g2 := F0 m 62 ls [.int r_22]) rfl ?_
    refine lv_if_ne (tgt := 122) hx hb d_M_fix_62 (by decide) (fun _ => ?_) (fun c9 => absurd c9 hc3)
    exact xr_vret F rfl hw d_M_fix_122
set_option maxRecDepth 100000 in
set_option maxHeartbeats 4000000 in
theorem t_M_fix_J58 (l : Launch) (Z : XZ) (u0 : PS) {K : PS → Prop} (x0 : Nat) (x1 : Int32) (x2 : Int32) (x3 : Int32) (x4 : Int32) (s0 : Nat) (s1 : Int32) (u : PS) (k : (p_M_fix_J58 K x0 x1 x2 x3 x4 s0 s1 u)) : XN l Z i_M_fix u0 (kV K) u 58 [(0, .ref x0), (1, .int x1), (2, .int x2), (3, .int x3), (4, .int x4)] [.int s1, .ref s0] := by
  unfold p_M_fix_J58 at k
  obtain ⟨rv, v9, hK, hle_u, w9⟩ := t_M_fix_J59 l Z u0 x0 x1 x2 x3 x4 s0 s1 (0 : Int32) u k
  refine ⟨rv, v9, hK, hle_u, ?_⟩
  intro p e s m args below meth c A H locs ls F hw hl
  obtain ⟨⟨hx, hb, hml, hown, hts⟩, hr, hlocks, hmn⟩ := id F
  refine lv_iconst (v := 0) hx hb d_M_fix_58 (by decide) ?_
  exact w9 p e s m args below meth c A H locs ls F hw (lv_sub hl [0, 1, 2, 3, 4] rfl)
set_option maxRecDepth 100000 in
set_option maxHeartbeats 4000000 in
theorem t_M_fix_J54 (l : Launch) (Z : XZ) (u0 : PS) {K : PS → Prop} (x0 : Nat) (x1 : Int32) (x2 : Int32) (x3 : Int32) (x4 : Int32) (s0 : Nat) (s1 : Int32) (u : PS) (k : (p_M_fix_J54 K x0 x1 x2 x3 x4 s0 s1 u)) : XN l Z i_M_fix u0 (kV K) u 54 [(0, .ref x0), (1, .int x1), (2, .int x2), (3, .int x3), (4, .int x4)] [.int s1, .ref s0] := by
  unfold p_M_fix_J54 at k
  obtain ⟨rv, v9, hK, hle_u, w9⟩ := t_M_fix_J59 l Z u0 x0 x1 x2 x3 x4 s0 s1 (1 : Int32) u k
  refine ⟨rv, v9, hK, hle_u, ?_⟩
  intro p e s m args below meth c A H locs ls F hw hl
  obtain ⟨⟨hx, hb, hml, hown, hts⟩, hr, hlocks, hmn⟩ := id F
  refine lv_iconst (v := 1) hx hb d_M_fix_54 (by decide) ?_
  refine lv_goto (tgt := 59) hx hb d_M_fix_55 (by decide) ?_
  exact w9 p e s m args below meth c A H locs ls F hw (lv_sub hl [0, 1, 2, 3, 4] rfl)
set_option maxRecDepth 100000 in
set_option maxHeartbeats 4000000 in
theorem t_M_fix_J32 (l : Launch) (Z : XZ) (u0 : PS) {K : PS → Prop} (x0 : Nat) (x1 : Int32) (x2 : Int32) (x3 : Int32) (x4 : Int32) (x5 : Int32) (s0 : Nat) (s1 : Int32) (u : PS) (k : (p_M_fix_J32 K x0 x1 x2 x3 x4 x5 s0 s1 u)) : XN l Z i_M_fix u0 (kV K) u 32 [(0, .ref x0), (1, .int x1), (2, .int x2), (3, .int x3), (4, .int x4), (5, .int x5)] [.int s1, .ref s0] := by
  unfold p_M_fix_J32 at k
  by_cases hc1 : x5 = 0
  · have k := k.1 hc1
    obtain ⟨rv, v9, hK, hle_u, w9⟩ := t_M_fix_J58 l Z u0 x0 x1 x2 x3 x4 s0 s1 u k
    refine ⟨rv, v9, hK, hle_u, ?_⟩
    intro p e s m args below meth c A H locs ls F hw hl
    obtain ⟨⟨hx, hb, hml, hown, hts⟩, hr, hlocks, hmn⟩ := id F
    refine lv_iload hx hb d_M_fix_32 (lv_at hl 5 rfl) ?_
    refine lv_if_eq (tgt := 58) hx hb d_M_fix_34 (by decide) (fun _ => ?_) (fun c9 => absurd hc1 c9)
    exact w9 p e s m args below meth c A H locs ls F hw (lv_sub hl [0, 1, 2, 3, 4] rfl)
  · have k := k.2 hc1
    obtain ⟨_, u_28, ⟨r_29, rfl, k⟩, hM2⟩ := c_M_isInput l Z x3 u _ k
    by_cases hc3 : r_29 = 0
    · have k := k.1 hc3
      obtain ⟨rv, v9, hK, hle_u_28, w9⟩ := t_M_fix_J54 l Z u0 x0 x1 x2 x3 x4 s0 s1 u_28 k
      have hle_u : x_le u v9 := (hM2.1).tr hle_u_28
      refine ⟨rv, v9, hK, hle_u, ?_⟩
      intro p e s m args below meth c A H locs ls F hw hl
      obtain ⟨⟨hx, hb, hml, hown, hts⟩, hr, hlocks, hmn⟩ := id F
      refine lv_iload hx hb d_M_fix_32 (lv_at hl 5 rfl) ?_
      refine lv_if_eq (tgt := 58) hx hb d_M_fix_34 (by decide) (fun c9 => absurd c9 hc1) (fun _ => ?_)
      refine lv_iload_n hx hb d_M_fix_37 rfl (lv_at hl 3 rfl) ?_
      refine xr_cS (As := [.int x3]) (rest := [.int s1, .ref s0]) ⟨hx, hb, hml, hown, hts⟩ hw hM2 hle_u_28 (fun _ _ => ⟨callB_of 1 hts (xgood w_936) rfl rfl rfl (hts _ (xm w_8)) (hts _ (xm w_934)) ⟨by decide, by decide, by decide +kernel⟩ ⟨Nat.le_of_ble_eq_true rfl, Nat.le_of_ble_eq_true rfl⟩, (hts _ (xm w_935))⟩) rfl hl.1 rfl (Nat.le_of_ble_eq_true rfl) d_M_fix_38 (fun H locs hw => ?_)
      refine W.eq (g2 := F0 m 41 ls [.int r_29, .int s1, .ref s0]) rfl ?_
      refine lv_if_eq (tgt := 54) hx hb d_M_fix_41 (by decide) (fun _ => ?_) (fun c9 => absurd hc3 c9)
      exact w9 p e s m args below meth c A H locs ls F hw (lv_sub hl [0, 1, 2, 3, 4] rfl)
    · have k := k.2 hc3
      obtain ⟨_, u_30, ⟨r_31, rfl, k⟩, hM4⟩ := c_M_in l Z x4 (0 : Int32) (1 : Int32) u_28 _ k
      by_cases hc5 : r_31 = 0
      · have k := k.2 hc5
        obtain ⟨rv, v9, hK, hle_u_30, w9⟩ := t_M_fix_J54 l Z u0 x0 x1 x2 x3 x4 s0 s1 u_30 k
        have hle_u_28 : x_le u_28 v9 := (hM4.1).tr hle_u_30
        have hle_u : x_le u v9 := (hM2.1).tr hle_u_28
        refine ⟨rv, v9, hK, hle_u, ?_⟩
        intro p e s m args below meth c A H locs ls F hw hl
        obtain ⟨⟨hx, hb, hml, hown, hts⟩, hr, hlocks, hmn⟩ := id F
        refine lv_iload hx hb d_M_fix_32 (lv_at hl 5 rfl) ?_
        refine lv_if_eq (tgt := 58) hx hb d_M_fix_34 (by decide) (fun c9 => absurd c9 hc1) (fun _ => ?_)
        refine lv_iload_n hx hb d_M_fix_37 rfl (lv_at hl 3 rfl) ?_
        refine xr_cS (As := [.int x3]) (rest := [.int s1, .ref s0]) ⟨hx, hb, hml, hown, hts⟩ hw hM2 hle_u_28 (fun _ _ => ⟨callB_of 1 hts (xgood w_936) rfl rfl rfl (hts _ (xm w_8)) (hts _ (xm w_934)) ⟨by decide, by decide, by decide +kernel⟩ ⟨Nat.le_of_ble_eq_true rfl, Nat.le_of_ble_eq_true rfl⟩, (hts _ (xm w_935))⟩) rfl hl.1 rfl (Nat.le_of_ble_eq_true rfl) d_M_fix_38 (fun H locs hw => ?_)
        refine W.eq (g2 := F0 m 41 ls [.int r_29, .int s1, .ref s0]) rfl ?_
        refine lv_if_eq (tgt := 54) hx hb d_M_fix_41 (by decide) (fun c9 => absurd c9 hc3) (fun _ => ?_)
        refine lv_iload hx hb d_M_fix_44 (lv_at hl 4 rfl) ?_
        refine lv_iconst (v := 0) hx hb d_M_fix_46 (by decide) ?_
        refine lv_iconst (v := 1) hx hb d_M_fix_47 (by decide) ?_
        refine xr_cS (As := [.int x4, .int 0, .int 1]) (rest := [.int s1, .ref s0]) ⟨hx, hb, hml, hown, hts⟩ hw hM4 hle_u_30 (fun _ _ => ⟨callB_of 3 hts (xgood w_925) rfl rfl rfl (hts _ (xm w_8)) (hts _ (xm w_923)) ⟨by decide, by decide, by decide +kernel⟩ ⟨Nat.le_of_ble_eq_true rfl, Nat.le_of_ble_eq_true rfl⟩, (hts _ (xm w_924))⟩) rfl hl.1 rfl (Nat.le_of_ble_eq_true rfl) d_M_fix_48 (fun H locs hw => ?_)
        refine W.eq (g2 := F0 m 51 ls [.int r_31, .int s1, .ref s0]) rfl ?_
        refine lv_if_ne (tgt := 58) hx hb d_M_fix_51 (by decide) (fun c9 => absurd hc5 c9) (fun _ => ?_)
        exact w9 p e s m args below meth c A H locs ls F hw (lv_sub hl [0, 1, 2, 3, 4] rfl)
      · have k := k.1 hc5
        obtain ⟨rv, v9, hK, hle_u_30, w9⟩ := t_M_fix_J58 l Z u0 x0 x1 x2 x3 x4 s0 s1 u_30 k
        have hle_u_28 : x_le u_28 v9 := (hM4.1).tr hle_u_30
        have hle_u : x_le u v9 := (hM2.1).tr hle_u_28
        refine ⟨rv, v9, hK, hle_u, ?_⟩
        intro p e s m args below meth c A H locs ls F hw hl
        obtain ⟨⟨hx, hb, hml, hown, hts⟩, hr, hlocks, hmn⟩ := id F
        refine lv_iload hx hb d_M_fix_32 (lv_at hl 5 rfl) ?_
        refine lv_if_eq (tgt := 58) hx hb d_M_fix_34 (by decide) (fun c9 => absurd c9 hc1) (fun _ => ?_)
        refine lv_iload_n hx hb d_M_fix_37 rfl (lv_at hl 3 rfl) ?_
        refine xr_cS (As := [.int x3]) (rest := [.int s1, .ref s0]) ⟨hx, hb, hml, hown, hts⟩ hw hM2 hle_u_28 (fun _ _ => ⟨callB_of 1 hts (xgood w_936) rfl rfl rfl (hts _ (xm w_8)) (hts _ (xm w_934)) ⟨by decide, by decide, by decide +kernel⟩ ⟨Nat.le_of_ble_eq_true rfl, Nat.le_of_ble_eq_true rfl⟩, (hts _ (xm w_935))⟩) rfl hl.1 rfl (Nat.le_of_ble_eq_true rfl) d_M_fix_38 (fun H locs hw => ?_)
        refine W.eq (g2 := F0 m 41 ls [.int r_29, .int s1, .ref s0]) rfl ?_
        refine lv_if_eq (tgt := 54) hx hb d_M_fix_41 (by decide) (fun c9 => absurd c9 hc3) (fun _ => ?_)
        refine lv_iload hx hb d_M_fix_44 (lv_at hl 4 rfl) ?_
        refine lv_iconst (v := 0) hx hb d_M_fix_46 (by decide) ?_
        refine lv_iconst (v := 1) hx hb d_M_fix_47 (by decide) ?_
        refine xr_cS (As := [.int x4, .int 0, .int 1]) (rest := [.int s1, .ref s0]) ⟨hx, hb, hml, hown, hts⟩ hw hM4 hle_u_30 (fun _ _ => ⟨callB_of 3 hts (xgood w_925) rfl rfl rfl (hts _ (xm w_8)) (hts _ (xm w_923)) ⟨by decide, by decide, by decide +kernel⟩ ⟨Nat.le_of_ble_eq_true rfl, Nat.le_of_ble_eq_true rfl⟩, (hts _ (xm w_924))⟩) rfl hl.1 rfl (Nat.le_of_ble_eq_true rfl) d_M_fix_48 (fun H locs hw => ?_)
        refine W.eq (g2 := F0 m 51 ls [.int r_31, .int s1, .ref s0]) rfl ?_
        refine lv_if_ne (tgt := 58) hx hb d_M_fix_51 (by decide) (fun _ => ?_) (fun c9 => absurd c9 hc5)
        exact w9 p e s m args below meth c A H locs ls F hw (lv_sub hl [0, 1, 2, 3, 4] rfl)
set_option maxRecDepth 100000 in
set_option maxHeartbeats 4000000 in
theorem t_M_fix_J19 (l : Launch) (Z : XZ) (u0 : PS) {K : PS → Prop} (x0 : Nat) (x1 : Int32) (x2 : Int32) (x3 : Int32) (x4 : Int32) (s0 : Int32) (u : PS) (k : (p_M_fix_J19 K x0 x1 x2 x3 x4 s0 u)) : XN l Z i_M_fix u0 (kV K) u 19 [(0, .ref x0), (1, .int x1), (2, .int x2), (3, .int x3), (4, .int x4)] [.int s0] := by
  unfold p_M_fix_J19 at k
  by_cases hc1 : s0 = 0
  · have k := k.2 hc1
    obtain ⟨rv, v9, hK, hle_u, w9⟩ := t_M_fix_J32 l Z u0 x0 x1 x2 x3 x4 s0 x0 (1 : Int32) u k
    refine ⟨rv, v9, hK, hle_u, ?_⟩
    intro p e s m args below meth c A H locs ls F hw hl
    obtain ⟨⟨hx, hb, hml, hown, hts⟩, hr, hlocks, hmn⟩ := id F
    refine lv_istore (lv' := [(5, .int s0), (0, .ref x0), (1, .int x1), (2, .int x2), (3, .int x3), (4, .int x4)]) hx hb d_M_fix_19 hl (by decide) rfl (fun ls hl => ?_)
    refine lv_aload_n hx hb d_M_fix_21 rfl (lv_at hl 1 rfl) ?_
    refine lv_iload hx hb d_M_fix_22 (lv_at hl 0 rfl) ?_
    refine lv_if_ne (tgt := 31) hx hb d_M_fix_24 (by decide) (fun c9 => absurd hc1 c9) (fun _ => ?_)
    refine lv_iconst (v := 1) hx hb d_M_fix_27 (by decide) ?_
    refine lv_goto (tgt := 32) hx hb d_M_fix_28 (by decide) ?_
    exact w9 p e s m args below meth c A H locs ls F hw (lv_sub hl [1, 2, 3, 4, 5, 0] rfl)
  · have k := k.1 hc1
    obtain ⟨rv, v9, hK, hle_u, w9⟩ := t_M_fix_J32 l Z u0 x0 x1 x2 x3 x4 s0 x0 (0 : Int32) u k
    refine ⟨rv, v9, hK, hle_u, ?_⟩
    intro p e s m args below meth c A H locs ls F hw hl
    obtain ⟨⟨hx, hb, hml, hown, hts⟩, hr, hlocks, hmn⟩ := id F
    refine lv_istore (lv' := [(5, .int s0), (0, .ref x0), (1, .int x1), (2, .int x2), (3, .int x3), (4, .int x4)]) hx hb d_M_fix_19 hl (by decide) rfl (fun ls hl => ?_)
    refine lv_aload_n hx hb d_M_fix_21 rfl (lv_at hl 1 rfl) ?_
    refine lv_iload hx hb d_M_fix_22 (lv_at hl 0 rfl) ?_
    refine lv_if_ne (tgt := 31) hx hb d_M_fix_24 (by decide) (fun _ => ?_) (fun c9 => absurd c9 hc1)
    refine lv_iconst (v := 0) hx hb d_M_fix_31 (by decide) ?_
    exact w9 p e s m args below meth c A H locs ls F hw (lv_sub hl [1, 2, 3, 4, 5, 0] rfl)
set_option maxRecDepth 100000 in
set_option maxHeartbeats 4000000 in
theorem t_M_fix_J18 (l : Launch) (Z : XZ) (u0 : PS) {K : PS → Prop} (x0 : Nat) (x1 : Int32) (x2 : Int32) (x3 : Int32) (x4 : Int32) (u : PS) (k : (p_M_fix_J18 K x0 x1 x2 x3 x4 u)) : XN l Z i_M_fix u0 (kV K) u 18 [(0, .ref x0), (1, .int x1), (2, .int x2), (3, .int x3), (4, .int x4)] [] := by
  unfold p_M_fix_J18 at k
  obtain ⟨rv, v9, hK, hle_u, w9⟩ := t_M_fix_J19 l Z u0 x0 x1 x2 x3 x4 (0 : Int32) u k
  refine ⟨rv, v9, hK, hle_u, ?_⟩
  intro p e s m args below meth c A H locs ls F hw hl
  obtain ⟨⟨hx, hb, hml, hown, hts⟩, hr, hlocks, hmn⟩ := id F
  refine lv_iconst (v := 0) hx hb d_M_fix_18 (by decide) ?_
  exact w9 p e s m args below meth c A H locs ls F hw (lv_sub hl [0, 1, 2, 3, 4] rfl)
set_option maxRecDepth 100000 in
set_option maxHeartbeats 4000000 in
theorem c_M_fix (l : Launch) (Z : XZ) (x0 : Nat) (x1 : Int32) (x2 : Int32) (x3 : Int32) (x4 : Int32) (u : PS) (K : PS → Prop) (k : p_M_fix x0 x1 x2 x3 x4 u K) : ∃ (rv : Option Value) (u1 : PS), (kV K) rv u1 ∧ XMet l Z i_M_fix [.ref x0, .int x1, .int x2, .int x3, .int x4] u rv u1 := by
  refine x_met (by decide) rfl (Nat.le_of_ble_eq_true rfl) ?_
  show XN l Z i_M_fix u (kV K) u 0 [(0, .ref x0), (1, .int x1), (2, .int x2), (3, .int x3), (4, .int x4)] []
  unfold p_M_fix at k
  obtain ⟨_, u_19, ⟨r_20, rfl, k⟩, hM1⟩ := c_M_isPlace l Z x1 u _ k
  by_cases hc2 : r_20 = 0
  · have k := k.1 hc2
    obtain ⟨rv, v9, hK, hle_u_19, w9⟩ := t_M_fix_J18 l Z u x0 x1 x2 x3 x4 u_19 k
    have hle_u : x_le u v9 := (hM1.1).tr hle_u_19
    refine ⟨rv, v9, hK, hle_u, ?_⟩
    intro p e s m args below meth c A H locs ls F hw hl
    obtain ⟨⟨hx, hb, hml, hown, hts⟩, hr, hlocks, hmn⟩ := id F
    refine lv_iload_n hx hb d_M_fix_0 rfl (lv_at hl 1 rfl) ?_
    refine xr_cS (As := [.int x1]) (rest := []) ⟨hx, hb, hml, hown, hts⟩ hw hM1 hle_u_19 (fun _ _ => ⟨callB_of 1 hts (xgood w_922) rfl rfl rfl (hts _ (xm w_8)) (hts _ (xm w_920)) ⟨by decide, by decide, by decide +kernel⟩ ⟨Nat.le_of_ble_eq_true rfl, Nat.le_of_ble_eq_true rfl⟩, (hts _ (xm w_921))⟩) rfl hl.1 rfl (Nat.le_of_ble_eq_true rfl) d_M_fix_1 (fun H locs hw => ?_)
    refine W.eq (g2 := F0 m 4 ls [.int r_20]) rfl ?_
    refine lv_if_eq (tgt := 18) hx hb d_M_fix_4 (by decide) (fun _ => ?_) (fun c9 => absurd hc2 c9)
    exact w9 p e s m args below meth c A H locs ls F hw (lv_sub hl [0, 1, 2, 3, 4] rfl)
  · have k := k.2 hc2
    obtain ⟨_, u_32, ⟨r_33, rfl, k⟩, hM3⟩ := c_M_isPlace l Z x2 u_19 _ k
    by_cases hc4 : r_33 = 0
    · have k := k.1 hc4
      obtain ⟨rv, v9, hK, hle_u_32, w9⟩ := t_M_fix_J18 l Z u x0 x1 x2 x3 x4 u_32 k
      have hle_u_19 : x_le u_19 v9 := (hM3.1).tr hle_u_32
      have hle_u : x_le u v9 := (hM1.1).tr hle_u_19
      refine ⟨rv, v9, hK, hle_u, ?_⟩
      intro p e s m args below meth c A H locs ls F hw hl
      obtain ⟨⟨hx, hb, hml, hown, hts⟩, hr, hlocks, hmn⟩ := id F
      refine lv_iload_n hx hb d_M_fix_0 rfl (lv_at hl 1 rfl) ?_
      refine xr_cS (As := [.int x1]) (rest := []) ⟨hx, hb, hml, hown, hts⟩ hw hM1 hle_u_19 (fun _ _ => ⟨callB_of 1 hts (xgood w_922) rfl rfl rfl (hts _ (xm w_8)) (hts _ (xm w_920)) ⟨by decide, by decide, by decide +kernel⟩ ⟨Nat.le_of_ble_eq_true rfl, Nat.le_of_ble_eq_true rfl⟩, (hts _ (xm w_921))⟩) rfl hl.1 rfl (Nat.le_of_ble_eq_true rfl) d_M_fix_1 (fun H locs hw => ?_)
      refine W.eq (g2 := F0 m 4 ls [.int r_20]) rfl ?_
      refine lv_if_eq (tgt := 18) hx hb d_M_fix_4 (by decide) (fun c9 => absurd c9 hc2) (fun _ => ?_)
      refine lv_iload_n hx hb d_M_fix_7 rfl (lv_at hl 2 rfl) ?_
      refine xr_cS (As := [.int x2]) (rest := []) ⟨hx, hb, hml, hown, hts⟩ hw hM3 hle_u_32 (fun _ _ => ⟨callB_of 1 hts (xgood w_922) rfl rfl rfl (hts _ (xm w_8)) (hts _ (xm w_920)) ⟨by decide, by decide, by decide +kernel⟩ ⟨Nat.le_of_ble_eq_true rfl, Nat.le_of_ble_eq_true rfl⟩, (hts _ (xm w_921))⟩) rfl hl.1 rfl (Nat.le_of_ble_eq_true rfl) d_M_fix_8 (fun H locs hw => ?_)
      refine W.eq (g2 := F0 m 11 ls [.int r_33]) rfl ?_
      refine lv_if_eq (tgt := 18) hx hb d_M_fix_11 (by decide) (fun _ => ?_) (fun c9 => absurd hc4 c9)
      exact w9 p e s m args below meth c A H locs ls F hw (lv_sub hl [0, 1, 2, 3, 4] rfl)
    · have k := k.2 hc4
      obtain ⟨rv, v9, hK, hle_u_32, w9⟩ := t_M_fix_J19 l Z u x0 x1 x2 x3 x4 (1 : Int32) u_32 k
      have hle_u_19 : x_le u_19 v9 := (hM3.1).tr hle_u_32
      have hle_u : x_le u v9 := (hM1.1).tr hle_u_19
      refine ⟨rv, v9, hK, hle_u, ?_⟩
      intro p e s m args below meth c A H locs ls F hw hl
      obtain ⟨⟨hx, hb, hml, hown, hts⟩, hr, hlocks, hmn⟩ := id F
      refine lv_iload_n hx hb d_M_fix_0 rfl (lv_at hl 1 rfl) ?_
      refine xr_cS (As := [.int x1]) (rest := []) ⟨hx, hb, hml, hown, hts⟩ hw hM1 hle_u_19 (fun _ _ => ⟨callB_of 1 hts (xgood w_922) rfl rfl rfl (hts _ (xm w_8)) (hts _ (xm w_920)) ⟨by decide, by decide, by decide +kernel⟩ ⟨Nat.le_of_ble_eq_true rfl, Nat.le_of_ble_eq_true rfl⟩, (hts _ (xm w_921))⟩) rfl hl.1 rfl (Nat.le_of_ble_eq_true rfl) d_M_fix_1 (fun H locs hw => ?_)
      refine W.eq (g2 := F0 m 4 ls [.int r_20]) rfl ?_
      refine lv_if_eq (tgt := 18) hx hb d_M_fix_4 (by decide) (fun c9 => absurd c9 hc2) (fun _ => ?_)
      refine lv_iload_n hx hb d_M_fix_7 rfl (lv_at hl 2 rfl) ?_
      refine xr_cS (As := [.int x2]) (rest := []) ⟨hx, hb, hml, hown, hts⟩ hw hM3 hle_u_32 (fun _ _ => ⟨callB_of 1 hts (xgood w_922) rfl rfl rfl (hts _ (xm w_8)) (hts _ (xm w_920)) ⟨by decide, by decide, by decide +kernel⟩ ⟨Nat.le_of_ble_eq_true rfl, Nat.le_of_ble_eq_true rfl⟩, (hts _ (xm w_921))⟩) rfl hl.1 rfl (Nat.le_of_ble_eq_true rfl) d_M_fix_8 (fun H locs hw => ?_)
      refine W.eq (g2 := F0 m 11 ls [.int r_33]) rfl ?_
      refine lv_if_eq (tgt := 18) hx hb d_M_fix_11 (by decide) (fun c9 => absurd c9 hc4) (fun _ => ?_)
      refine lv_iconst (v := 1) hx hb d_M_fix_14 (by decide) ?_
      refine lv_goto (tgt := 19) hx hb d_M_fix_15 (by decide) ?_
      exact w9 p e s m args below meth c A H locs ls F hw (lv_sub hl [0, 1, 2, 3, 4] rfl)
set_option maxRecDepth 100000 in
set_option maxHeartbeats 4000000 in
theorem t_M_compose_J110 (l : Launch) (Z : XZ) (u0 : PS) {Kv : Option Value → PS → Prop} {R : Int32 → PS → Prop} {E120 : PS → Prop} (x0 : Nat) (x1 : Int32) (x2 : Int32) (x3 : Int32) (x4 : Int32) (x6 : Int32) (s0 : Nat) (s1 : Int32) (s2 : Nat) (s3 : Int32) (s4 : Int32) (u : PS) (hR : ∀ (y6 : Int32) (v : PS), R y6 v → XN l Z i_M_compose u0 Kv v 66 [(0, .ref x0), (1, .int x1), (2, .int x2), (3, .int x3), (4, .int x4), (6, .int y6)] []) (hE120 : ∀ (v : PS), E120 v → XN l Z i_M_compose u0 Kv v 120 [(0, .ref x0), (1, .int x1)] []) (k : (p_M_compose_J110 R E120 x0 x1 x2 x3 x4 x6 s0 s1 s2 s3 s4 u)) : XN l Z i_M_compose u0 Kv u 110 [(0, .ref x0), (1, .int x1), (2, .int x2), (3, .int x3), (4, .int x4), (6, .int x6)] [.int s4, .int s3, .ref s2, .int s1, .ref s0] := by
  unfold p_M_compose_J110 at k
  obtain ⟨h2, k⟩ := k
  obtain ⟨_, u_28, ⟨r_29, rfl, k⟩, hM1⟩ := c_M_is l Z s2 s3 s4 u _ k
  obtain ⟨u_30, h3, k⟩ := k
  obtain ⟨y4, ey4⟩ : ∃ y9 : Int32, y9 = x6 + 1 := ⟨_, rfl⟩
  have k := k y4 ey4
  obtain ⟨rv, v9, hK, hle_u_30, w9⟩ := hR y4 u_30 k
  have hle_u_28 : x_le u_28 v9 := (h3.le).tr hle_u_30
  have hle_u : x_le u v9 := (hM1.1).tr hle_u_28
  refine ⟨rv, v9, hK, hle_u, ?_⟩
  intro p e s m args below meth c A H locs ls F hw hl
  obtain ⟨⟨hx, hb, hml, hown, hts⟩, hr, hlocks, hmn⟩ := id F
  refine xr_cV (As := [.int s3, .int s4]) (rest := [.int s1, .ref s0]) ⟨hx, hb, hml, hown, hts⟩ hw hM1 hle_u_28 (fun _ _ => ⟨callB_of 2 hts (xgood w_944) rfl rfl rfl (hts _ (xm w_8)) (hts _ (xm w_941)) ⟨by decide, by decide, by decide +kernel⟩ ⟨Nat.le_of_ble_eq_true rfl, Nat.le_of_ble_eq_true rfl⟩, (hts _ (xm w_943)), (hts _ (xm wp_39))⟩) (qc := (R_M, F_M, 14)) rfl rfl h2 rfl hl.1 rfl (Nat.le_of_ble_eq_true rfl) d_M_compose_110 (fun H locs hw => ?_)
  refine W.eq (g2 := F0 m 113 ls [.int r_29, .int s1, .ref s0]) rfl ?_
  refine xr_zast hx hb hw h3 d_M_compose_113 (fun H locs hw => ?_)
  refine lv_iinc (v := y4) (lv' := [(6, .int y4), (0, .ref x0), (1, .int x1), (2, .int x2), (3, .int x3), (4, .int x4)]) hx hb d_M_compose_114 hl (k := 5) rfl (by subst ey4; rfl) (by decide) rfl (fun ls hl => ?_)
  refine lv_goto (tgt := 66) hx hb d_M_compose_117 (by decide) ?_
  exact w9 p e s m args below meth c A H locs ls F hw (lv_sub hl [1, 2, 3, 4, 5, 0] rfl)
set_option maxRecDepth 100000 in
set_option maxHeartbeats 4000000 in
theorem t_M_compose_L66 (l : Launch) (Z : XZ) (u0 : PS) {Kv : Option Value → PS → Prop} {E120 : PS → Prop} (x0 : Nat) (x1 : Int32) (x2 : Int32) (x3 : Int32) (x4 : Int32) (hE120 : ∀ (v : PS), E120 v → XN l Z i_M_compose u0 Kv v 120 [(0, .ref x0), (1, .int x1)] []) : ∀ (n : Nat) (x6 : Int32) (u : PS), p_M_compose_L66 x0 x1 x2 x3 x4 E120 n x6 u → XN l Z i_M_compose u0 Kv u 66 [(0, .ref x0), (1, .int x1), (2, .int x2), (3, .int x3), (4, .int x4), (6, .int x6)] [] := by
  intro n
  induction n with
  | zero => intro x6 u k; exact False.elim k
  | succ n ih =>
    intro x6 u k
    rw [p_M_compose_L66] at k
    by_cases hc1 : 1024 ≤ x6
    · have k := k.1 hc1
      obtain ⟨rv, v9, hK, hle_u, w9⟩ := hE120 u k
      refine ⟨rv, v9, hK, hle_u, ?_⟩
      intro p e s m args below meth c A H locs ls F hw hl
      obtain ⟨⟨hx, hb, hml, hown, hts⟩, hr, hlocks, hmn⟩ := id F
      refine lv_iload hx hb d_M_compose_66 (lv_at hl 5 rfl) ?_
      refine lv_sipush (v := 1024) hx hb d_M_compose_68 (by decide) ?_
      refine lv_icmp_ge (tgt := 120) hx hb d_M_compose_71 (by decide) (fun _ => ?_) (fun c9 => absurd hc1 c9)
      exact w9 p e s m args below meth c A H locs ls F hw (lv_sub hl [0, 1] rfl)
    · have k := k.2 hc1
      obtain ⟨z_25, h2, k⟩ := k
      obtain ⟨h4, k⟩ := k
      obtain ⟨_, u_26, ⟨r_27, rfl, k⟩, hM3⟩ := c_M_is l Z x0 x4 x6 u _ k
      by_cases hc5 : r_27 = 0
      · have k := k.1 hc5
        obtain ⟨rv, v9, hK, hle_u_26, w9⟩ := t_M_compose_J110 l Z u0 x0 x1 x2 x3 x4 x6 z_25 x6 x0 x2 (x6 &&& (((1 : Int32) <<< (x3 &&& 31)) ^^^ (-1 : Int32))) u_26 ih hE120 k
        have hle_u : x_le u v9 := (hM3.1).tr hle_u_26
        refine ⟨rv, v9, hK, hle_u, ?_⟩
        intro p e s m args below meth c A H locs ls F hw hl
        obtain ⟨⟨hx, hb, hml, hown, hts⟩, hr, hlocks, hmn⟩ := id F
        refine lv_iload hx hb d_M_compose_66 (lv_at hl 5 rfl) ?_
        refine lv_sipush (v := 1024) hx hb d_M_compose_68 (by decide) ?_
        refine lv_icmp_ge (tgt := 120) hx hb d_M_compose_71 (by decide) (fun c9 => absurd c9 hc1) (fun _ => ?_)
        refine lv_aload_n hx hb d_M_compose_74 rfl (lv_at hl 0 rfl) ?_
        refine xr_get hx hb hts (xmu uws_M) hown hw h2 rfl (by decide) (hts _ (xm w_870)) (fun _ h9 => h9) d_M_compose_75 ?_
        refine lv_iload hx hb d_M_compose_78 (lv_at hl 5 rfl) ?_
        refine lv_aload_n hx hb d_M_compose_80 rfl (lv_at hl 0 rfl) ?_
        refine lv_iload_n hx hb d_M_compose_81 rfl (lv_at hl 2 rfl) ?_
        refine lv_aload_n hx hb d_M_compose_82 rfl (lv_at hl 0 rfl) ?_
        refine lv_iload hx hb d_M_compose_83 (lv_at hl 4 rfl) ?_
        refine lv_iload hx hb d_M_compose_85 (lv_at hl 5 rfl) ?_
        refine xr_cV (As := [.int x4, .int x6]) (rest := [.int x2, .ref x0, .int x6, .ref z_25]) ⟨hx, hb, hml, hown, hts⟩ hw hM3 hle_u_26 (fun _ _ => ⟨callB_of 2 hts (xgood w_944) rfl rfl rfl (hts _ (xm w_8)) (hts _ (xm w_941)) ⟨by decide, by decide, by decide +kernel⟩ ⟨Nat.le_of_ble_eq_true rfl, Nat.le_of_ble_eq_true rfl⟩, (hts _ (xm w_943)), (hts _ (xm wp_39))⟩) (qc := (R_M, F_M, 14)) rfl rfl h4 rfl hl.1 rfl (Nat.le_of_ble_eq_true rfl) d_M_compose_87 (fun H locs hw => ?_)
        refine W.eq (g2 := F0 m 90 ls [.int r_27, .int x2, .ref x0, .int x6, .ref z_25]) rfl ?_
        refine lv_if_eq (tgt := 102) hx hb d_M_compose_90 (by decide) (fun _ => ?_) (fun c9 => absurd hc5 c9)
        refine lv_iload hx hb d_M_compose_102 (lv_at hl 5 rfl) ?_
        refine lv_iconst (v := 1) hx hb d_M_compose_104 (by decide) ?_
        refine lv_iload_n hx hb d_M_compose_105 rfl (lv_at hl 3 rfl) ?_
        refine lv_ishl hx hb d_M_compose_106 ?_
        refine lv_iconst (v := (-1)) hx hb d_M_compose_107 (by decide) ?_
        refine lv_ixor hx hb d_M_compose_108 ?_
        refine lv_iand hx hb d_M_compose_109 ?_
        exact w9 p e s m args below meth c A H locs ls F hw (lv_sub hl [0, 1, 2, 3, 4, 5] rfl)
      · have k := k.2 hc5
        obtain ⟨rv, v9, hK, hle_u_26, w9⟩ := t_M_compose_J110 l Z u0 x0 x1 x2 x3 x4 x6 z_25 x6 x0 x2 (x6 ||| ((1 : Int32) <<< (x3 &&& 31))) u_26 ih hE120 k
        have hle_u : x_le u v9 := (hM3.1).tr hle_u_26
        refine ⟨rv, v9, hK, hle_u, ?_⟩
        intro p e s m args below meth c A H locs ls F hw hl
        obtain ⟨⟨hx, hb, hml, hown, hts⟩, hr, hlocks, hmn⟩ := id F
        refine lv_iload hx hb d_M_compose_66 (lv_at hl 5 rfl) ?_
        refine lv_sipush (v := 1024) hx hb d_M_compose_68 (by decide) ?_
        refine lv_icmp_ge (tgt := 120) hx hb d_M_compose_71 (by decide) (fun c9 => absurd c9 hc1) (fun _ => ?_)
        refine lv_aload_n hx hb d_M_compose_74 rfl (lv_at hl 0 rfl) ?_
        refine xr_get hx hb hts (xmu uws_M) hown hw h2 rfl (by decide) (hts _ (xm w_870)) (fun _ h9 => h9) d_M_compose_75 ?_
        refine lv_iload hx hb d_M_compose_78 (lv_at hl 5 rfl) ?_
        refine lv_aload_n hx hb d_M_compose_80 rfl (lv_at hl 0 rfl) ?_
        refine lv_iload_n hx hb d_M_compose_81 rfl (lv_at hl 2 rfl) ?_
        refine lv_aload_n hx hb d_M_compose_82 rfl (lv_at hl 0 rfl) ?_
        refine lv_iload hx hb d_M_compose_83 (lv_at hl 4 rfl) ?_
        refine lv_iload hx hb d_M_compose_85 (lv_at hl 5 rfl) ?_
        refine xr_cV (As := [.int x4, .int x6]) (rest := [.int x2, .ref x0, .int x6, .ref z_25]) ⟨hx, hb, hml, hown, hts⟩ hw hM3 hle_u_26 (fun _ _ => ⟨callB_of 2 hts (xgood w_944) rfl rfl rfl (hts _ (xm w_8)) (hts _ (xm w_941)) ⟨by decide, by decide, by decide +kernel⟩ ⟨Nat.le_of_ble_eq_true rfl, Nat.le_of_ble_eq_true rfl⟩, (hts _ (xm w_943)), (hts _ (xm wp_39))⟩) (qc := (R_M, F_M, 14)) rfl rfl h4 rfl hl.1 rfl (Nat.le_of_ble_eq_true rfl) d_M_compose_87 (fun H locs hw => ?_)
        refine W.eq (g2 := F0 m 90 ls [.int r_27, .int x2, .ref x0, .int x6, .ref z_25]) rfl ?_
        refine lv_if_eq (tgt := 102) hx hb d_M_compose_90 (by decide) (fun c9 => absurd c9 hc5) (fun _ => ?_)
        refine lv_iload hx hb d_M_compose_93 (lv_at hl 5 rfl) ?_
        refine lv_iconst (v := 1) hx hb d_M_compose_95 (by decide) ?_
        refine lv_iload_n hx hb d_M_compose_96 rfl (lv_at hl 3 rfl) ?_
        refine lv_ishl hx hb d_M_compose_97 ?_
        refine lv_ior hx hb d_M_compose_98 ?_
        refine lv_goto (tgt := 110) hx hb d_M_compose_99 (by decide) ?_
        exact w9 p e s m args below meth c A H locs ls F hw (lv_sub hl [0, 1, 2, 3, 4, 5] rfl)
set_option maxRecDepth 100000 in
set_option maxHeartbeats 4000000 in
theorem t_M_compose_J120 (l : Launch) (Z : XZ) (u0 : PS) {K : PS → Prop} (x0 : Nat) (x1 : Int32) (u : PS) (k : (p_M_compose_J120 K x0 x1 u)) : XN l Z i_M_compose u0 (kV K) u 120 [(0, .ref x0), (1, .int x1)] [] := by
  unfold p_M_compose_J120 at k
  obtain ⟨h2, k⟩ := k
  obtain ⟨_, u_31, ⟨rfl, k⟩, hM1⟩ := c_M_take l Z x0 x1 u _ k
  have hle_u_31 : x_le u_31 u_31 := x_le.rf u_31
  have hle_u : x_le u u_31 := (hM1.1).tr hle_u_31
  refine ⟨none, u_31, ⟨rfl, k⟩, hle_u, ?_⟩
  intro p e s m args below meth c A H locs ls F hw hl
  obtain ⟨⟨hx, hb, hml, hown, hts⟩, hr, hlocks, hmn⟩ := id F
  refine lv_aload_n hx hb d_M_compose_120 rfl (lv_at hl 0 rfl) ?_
  refine lv_iload_n hx hb d_M_compose_121 rfl (lv_at hl 1 rfl) ?_
  refine xr_cV (As := [.int x1]) (rest := []) ⟨hx, hb, hml, hown, hts⟩ hw hM1 hle_u_31 (fun _ _ => ⟨callB_of 1 hts (xgood w_951) rfl rfl rfl (hts _ (xm w_8)) (hts _ (xm w_948)) ⟨by decide, by decide, by decide +kernel⟩ ⟨Nat.le_of_ble_eq_true rfl, Nat.le_of_ble_eq_true rfl⟩, (hts _ (xm w_950)), (hts _ (xm wp_40))⟩) (qc := (R_M, F_M, 14)) rfl rfl h2 rfl hl.1 rfl (Nat.le_of_ble_eq_true rfl) d_M_compose_122 (fun H locs hw => ?_)
  refine W.eq (g2 := F0 m 125 ls []) rfl ?_
  exact xr_vret F rfl hw d_M_compose_125
set_option maxRecDepth 100000 in
set_option maxHeartbeats 4000000 in
theorem t_M_compose_J57 (l : Launch) (Z : XZ) (u0 : PS) {K : PS → Prop} (x0 : Nat) (x1 : Int32) (x2 : Int32) (x3 : Int32) (x4 : Int32) (s0 : Nat) (s1 : Int32) (s2 : Int32) (u : PS) (k : (p_M_compose_J57 K x0 x1 x2 x3 x4 s0 s1 s2 u)) : XN l Z i_M_compose u0 (kV K) u 57 [(0, .ref x0), (1, .int x1), (2, .int x2), (3, .int x3), (4, .int x4)] [.int s2, .int s1, .ref s0] := by
  unfold p_M_compose_J57 at k
  obtain ⟨h2, k⟩ := k
  obtain ⟨_, u_23, ⟨r_24, rfl, k⟩, hM1⟩ := c_M_refuse l Z s0 s1 s2 u _ k
  by_cases hc3 : r_24 = 0
  · have k := k.2 hc3
    obtain ⟨n4, k⟩ := k
    have hx6 : ∀ (v5 : PS), (p_M_compose_J120 K x0 x1 v5) → XN l Z i_M_compose u0 (kV K) v5 120 [(0, .ref x0), (1, .int x1)] [] := by
      intro v5 k
      obtain ⟨rv, v9, hK, hle_v5, w9⟩ := t_M_compose_J120 l Z u0 x0 x1 v5 k
      refine ⟨rv, v9, hK, hle_v5, ?_⟩
      intro p e s m args below meth c A H locs ls F hw hl
      obtain ⟨⟨hx, hb, hml, hown, hts⟩, hr, hlocks, hmn⟩ := id F
      exact w9 p e s m args below meth c A H locs ls F hw (lv_sub hl [0, 1] rfl)
    obtain ⟨rv, v9, hK, hle_u_23, w9⟩ := t_M_compose_L66 l Z u0 x0 x1 x2 x3 x4 hx6 n4 (0 : Int32) u_23 k
    have hle_u : x_le u v9 := (hM1.1).tr hle_u_23
    refine ⟨rv, v9, hK, hle_u, ?_⟩
    intro p e s m args below meth c A H locs ls F hw hl
    obtain ⟨⟨hx, hb, hml, hown, hts⟩, hr, hlocks, hmn⟩ := id F
    refine xr_cV (As := [.int s1, .int s2]) (rest := []) ⟨hx, hb, hml, hown, hts⟩ hw hM1 hle_u_23 (fun _ _ => ⟨callB_of 2 hts (xgood w_929) rfl rfl rfl (hts _ (xm w_8)) (hts _ (xm w_926)) ⟨by decide, by decide, by decide +kernel⟩ ⟨Nat.le_of_ble_eq_true rfl, Nat.le_of_ble_eq_true rfl⟩, (hts _ (xm w_928)), (hts _ (xm wp_38))⟩) (qc := (R_M, F_M, 14)) rfl rfl h2 rfl hl.1 rfl (Nat.le_of_ble_eq_true rfl) d_M_compose_57 (fun H locs hw => ?_)
    refine W.eq (g2 := F0 m 60 ls [.int r_24]) rfl ?_
    refine lv_if_ne (tgt := 125) hx hb d_M_compose_60 (by decide) (fun c9 => absurd hc3 c9) (fun _ => ?_)
    refine lv_iconst (v := 0) hx hb d_M_compose_63 (by decide) ?_
    refine lv_istore (lv' := [(6, .int 0), (0, .ref x0), (1, .int x1), (2, .int x2), (3, .int x3), (4, .int x4)]) hx hb d_M_compose_64 hl (by decide) rfl (fun ls hl => ?_)
    exact w9 p e s m args below meth c A H locs ls F hw (lv_sub hl [1, 2, 3, 4, 5, 0] rfl)
  · have k := k.1 hc3
    have hle_u_23 : x_le u_23 u_23 := x_le.rf u_23
    have hle_u : x_le u u_23 := (hM1.1).tr hle_u_23
    refine ⟨none, u_23, ⟨rfl, k⟩, hle_u, ?_⟩
    intro p e s m args below meth c A H locs ls F hw hl
    obtain ⟨⟨hx, hb, hml, hown, hts⟩, hr, hlocks, hmn⟩ := id F
    refine xr_cV (As := [.int s1, .int s2]) (rest := []) ⟨hx, hb, hml, hown, hts⟩ hw hM1 hle_u_23 (fun _ _ => ⟨callB_of 2 hts (xgood w_929) rfl rfl rfl (hts _ (xm w_8)) (hts _ (xm w_926)) ⟨by decide, by decide, by decide +kernel⟩ ⟨Nat.le_of_ble_eq_true rfl, Nat.le_of_ble_eq_true rfl⟩, (hts _ (xm w_928)), (hts _ (xm wp_38))⟩) (qc := (R_M, F_M, 14)) rfl rfl h2 rfl hl.1 rfl (Nat.le_of_ble_eq_true rfl) d_M_compose_57 (fun H locs hw => ?_)
    refine W.eq (g2 := F0 m 60 ls [.int r_24]) rfl ?_
    refine lv_if_ne (tgt := 125) hx hb d_M_compose_60 (by decide) (fun _ => ?_) (fun c9 => absurd c9 hc3)
    exact xr_vret F rfl hw d_M_compose_125
set_option maxRecDepth 100000 in
set_option maxHeartbeats 4000000 in
theorem t_M_compose_J56 (l : Launch) (Z : XZ) (u0 : PS) {K : PS → Prop} (x0 : Nat) (x1 : Int32) (x2 : Int32) (x3 : Int32) (x4 : Int32) (s0 : Nat) (s1 : Int32) (u : PS) (k : (p_M_compose_J56 K x0 x1 x2 x3 x4 s0 s1 u)) : XN l Z i_M_compose u0 (kV K) u 56 [(0, .ref x0), (1, .int x1), (2, .int x2), (3, .int x3), (4, .int x4)] [.int s1, .ref s0] := by
  unfold p_M_compose_J56 at k
  obtain ⟨rv, v9, hK, hle_u, w9⟩ := t_M_compose_J57 l Z u0 x0 x1 x2 x3 x4 s0 s1 (0 : Int32) u k
  refine ⟨rv, v9, hK, hle_u, ?_⟩
  intro p e s m args below meth c A H locs ls F hw hl
  obtain ⟨⟨hx, hb, hml, hown, hts⟩, hr, hlocks, hmn⟩ := id F
  refine lv_iconst (v := 0) hx hb d_M_compose_56 (by decide) ?_
  exact w9 p e s m args below meth c A H locs ls F hw (lv_sub hl [0, 1, 2, 3, 4] rfl)
set_option maxRecDepth 100000 in
set_option maxHeartbeats 4000000 in
theorem t_M_compose_J40 (l : Launch) (Z : XZ) (u0 : PS) {K : PS → Prop} (x0 : Nat) (x1 : Int32) (x2 : Int32) (x3 : Int32) (x4 : Int32) (x5 : Int32) (s0 : Nat) (s1 : Int32) (u : PS) (k : (p_M_compose_J40 K x0 x1 x2 x3 x4 x5 s0 s1 u)) : XN l Z i_M_compose u0 (kV K) u 40 [(0, .ref x0), (1, .int x1), (2, .int x2), (3, .int x3), (4, .int x4), (5, .int x5)] [.int s1, .ref s0] := by
  unfold p_M_compose_J40 at k
  by_cases hc1 : x5 = 0
  · have k := k.1 hc1
    obtain ⟨rv, v9, hK, hle_u, w9⟩ := t_M_compose_J56 l Z u0 x0 x1 x2 x3 x4 s0 s1 u k
    refine ⟨rv, v9, hK, hle_u, ?_⟩
    intro p e s m args below meth c A H locs ls F hw hl
    obtain ⟨⟨hx, hb, hml, hown, hts⟩, hr, hlocks, hmn⟩ := id F
    refine lv_iload hx hb d_M_compose_40 (lv_at hl 5 rfl) ?_
    refine lv_if_eq (tgt := 56) hx hb d_M_compose_42 (by decide) (fun _ => ?_) (fun c9 => absurd hc1 c9)
    exact w9 p e s m args below meth c A H locs ls F hw (lv_sub hl [0, 1, 2, 3, 4] rfl)
  · have k := k.2 hc1
    obtain ⟨_, u_32, ⟨r_33, rfl, k⟩, hM2⟩ := c_M_isInput l Z x3 u _ k
    by_cases hc3 : r_33 = 0
    · have k := k.2 hc3
      obtain ⟨rv, v9, hK, hle_u_32, w9⟩ := t_M_compose_J57 l Z u0 x0 x1 x2 x3 x4 s0 s1 (1 : Int32) u_32 k
      have hle_u : x_le u v9 := (hM2.1).tr hle_u_32
      refine ⟨rv, v9, hK, hle_u, ?_⟩
      intro p e s m args below meth c A H locs ls F hw hl
      obtain ⟨⟨hx, hb, hml, hown, hts⟩, hr, hlocks, hmn⟩ := id F
      refine lv_iload hx hb d_M_compose_40 (lv_at hl 5 rfl) ?_
      refine lv_if_eq (tgt := 56) hx hb d_M_compose_42 (by decide) (fun c9 => absurd c9 hc1) (fun _ => ?_)
      refine lv_iload_n hx hb d_M_compose_45 rfl (lv_at hl 3 rfl) ?_
      refine xr_cS (As := [.int x3]) (rest := [.int s1, .ref s0]) ⟨hx, hb, hml, hown, hts⟩ hw hM2 hle_u_32 (fun _ _ => ⟨callB_of 1 hts (xgood w_936) rfl rfl rfl (hts _ (xm w_8)) (hts _ (xm w_934)) ⟨by decide, by decide, by decide +kernel⟩ ⟨Nat.le_of_ble_eq_true rfl, Nat.le_of_ble_eq_true rfl⟩, (hts _ (xm w_935))⟩) rfl hl.1 rfl (Nat.le_of_ble_eq_true rfl) d_M_compose_46 (fun H locs hw => ?_)
      refine W.eq (g2 := F0 m 49 ls [.int r_33, .int s1, .ref s0]) rfl ?_
      refine lv_if_ne (tgt := 56) hx hb d_M_compose_49 (by decide) (fun c9 => absurd hc3 c9) (fun _ => ?_)
      refine lv_iconst (v := 1) hx hb d_M_compose_52 (by decide) ?_
      refine lv_goto (tgt := 57) hx hb d_M_compose_53 (by decide) ?_
      exact w9 p e s m args below meth c A H locs ls F hw (lv_sub hl [0, 1, 2, 3, 4] rfl)
    · have k := k.1 hc3
      obtain ⟨rv, v9, hK, hle_u_32, w9⟩ := t_M_compose_J56 l Z u0 x0 x1 x2 x3 x4 s0 s1 u_32 k
      have hle_u : x_le u v9 := (hM2.1).tr hle_u_32
      refine ⟨rv, v9, hK, hle_u, ?_⟩
      intro p e s m args below meth c A H locs ls F hw hl
      obtain ⟨⟨hx, hb, hml, hown, hts⟩, hr, hlocks, hmn⟩ := id F
      refine lv_iload hx hb d_M_compose_40 (lv_at hl 5 rfl) ?_
      refine lv_if_eq (tgt := 56) hx hb d_M_compose_42 (by decide) (fun c9 => absurd c9 hc1) (fun _ => ?_)
      refine lv_iload_n hx hb d_M_compose_45 rfl (lv_at hl 3 rfl) ?_
      refine xr_cS (As := [.int x3]) (rest := [.int s1, .ref s0]) ⟨hx, hb, hml, hown, hts⟩ hw hM2 hle_u_32 (fun _ _ => ⟨callB_of 1 hts (xgood w_936) rfl rfl rfl (hts _ (xm w_8)) (hts _ (xm w_934)) ⟨by decide, by decide, by decide +kernel⟩ ⟨Nat.le_of_ble_eq_true rfl, Nat.le_of_ble_eq_true rfl⟩, (hts _ (xm w_935))⟩) rfl hl.1 rfl (Nat.le_of_ble_eq_true rfl) d_M_compose_46 (fun H locs hw => ?_)
      refine W.eq (g2 := F0 m 49 ls [.int r_33, .int s1, .ref s0]) rfl ?_
      refine lv_if_ne (tgt := 56) hx hb d_M_compose_49 (by decide) (fun _ => ?_) (fun c9 => absurd c9 hc3)
      exact w9 p e s m args below meth c A H locs ls F hw (lv_sub hl [0, 1, 2, 3, 4] rfl)
set_option maxRecDepth 100000 in
set_option maxHeartbeats 4000000 in
theorem t_M_compose_J27 (l : Launch) (Z : XZ) (u0 : PS) {K : PS → Prop} (x0 : Nat) (x1 : Int32) (x2 : Int32) (x3 : Int32) (x4 : Int32) (s0 : Int32) (u : PS) (k : (p_M_compose_J27 K x0 x1 x2 x3 x4 s0 u)) : XN l Z i_M_compose u0 (kV K) u 27 [(0, .ref x0), (1, .int x1), (2, .int x2), (3, .int x3), (4, .int x4)] [.int s0] := by
  unfold p_M_compose_J27 at k
  by_cases hc1 : s0 = 0
  · have k := k.2 hc1
    obtain ⟨rv, v9, hK, hle_u, w9⟩ := t_M_compose_J40 l Z u0 x0 x1 x2 x3 x4 s0 x0 (1 : Int32) u k
    refine ⟨rv, v9, hK, hle_u, ?_⟩
    intro p e s m args below meth c A H locs ls F hw hl
    obtain ⟨⟨hx, hb, hml, hown, hts⟩, hr, hlocks, hmn⟩ := id F
    refine lv_istore (lv' := [(5, .int s0), (0, .ref x0), (1, .int x1), (2, .int x2), (3, .int x3), (4, .int x4)]) hx hb d_M_compose_27 hl (by decide) rfl (fun ls hl => ?_)
    refine lv_aload_n hx hb d_M_compose_29 rfl (lv_at hl 1 rfl) ?_
    refine lv_iload hx hb d_M_compose_30 (lv_at hl 0 rfl) ?_
    refine lv_if_ne (tgt := 39) hx hb d_M_compose_32 (by decide) (fun c9 => absurd hc1 c9) (fun _ => ?_)
    refine lv_iconst (v := 1) hx hb d_M_compose_35 (by decide) ?_
    refine lv_goto (tgt := 40) hx hb d_M_compose_36 (by decide) ?_
    exact w9 p e s m args below meth c A H locs ls F hw (lv_sub hl [1, 2, 3, 4, 5, 0] rfl)
  · have k := k.1 hc1
    obtain ⟨rv, v9, hK, hle_u, w9⟩ := t_M_compose_J40 l Z u0 x0 x1 x2 x3 x4 s0 x0 (0 : Int32) u k
    refine ⟨rv, v9, hK, hle_u, ?_⟩
    intro p e s m args below meth c A H locs ls F hw hl
    obtain ⟨⟨hx, hb, hml, hown, hts⟩, hr, hlocks, hmn⟩ := id F
    refine lv_istore (lv' := [(5, .int s0), (0, .ref x0), (1, .int x1), (2, .int x2), (3, .int x3), (4, .int x4)]) hx hb d_M_compose_27 hl (by decide) rfl (fun ls hl => ?_)
    refine lv_aload_n hx hb d_M_compose_29 rfl (lv_at hl 1 rfl) ?_
    refine lv_iload hx hb d_M_compose_30 (lv_at hl 0 rfl) ?_
    refine lv_if_ne (tgt := 39) hx hb d_M_compose_32 (by decide) (fun _ => ?_) (fun c9 => absurd c9 hc1)
    refine lv_iconst (v := 0) hx hb d_M_compose_39 (by decide) ?_
    exact w9 p e s m args below meth c A H locs ls F hw (lv_sub hl [1, 2, 3, 4, 5, 0] rfl)
set_option maxRecDepth 100000 in
set_option maxHeartbeats 4000000 in
theorem t_M_compose_J26 (l : Launch) (Z : XZ) (u0 : PS) {K : PS → Prop} (x0 : Nat) (x1 : Int32) (x2 : Int32) (x3 : Int32) (x4 : Int32) (u : PS) (k : (p_M_compose_J26 K x0 x1 x2 x3 x4 u)) : XN l Z i_M_compose u0 (kV K) u 26 [(0, .ref x0), (1, .int x1), (2, .int x2), (3, .int x3), (4, .int x4)] [] := by
  unfold p_M_compose_J26 at k
  obtain ⟨rv, v9, hK, hle_u, w9⟩ := t_M_compose_J27 l Z u0 x0 x1 x2 x3 x4 (0 : Int32) u k
  refine ⟨rv, v9, hK, hle_u, ?_⟩
  intro p e s m args below meth c A H locs ls F hw hl
  obtain ⟨⟨hx, hb, hml, hown, hts⟩, hr, hlocks, hmn⟩ := id F
  refine lv_iconst (v := 0) hx hb d_M_compose_26 (by decide) ?_
  exact w9 p e s m args below meth c A H locs ls F hw (lv_sub hl [0, 1, 2, 3, 4] rfl)
set_option maxRecDepth 100000 in
set_option maxHeartbeats 4000000 in
theorem c_M_compose (l : Launch) (Z : XZ) (x0 : Nat) (x1 : Int32) (x2 : Int32) (x3 : Int32) (x4 : Int32) (u : PS) (K : PS → Prop) (k : p_M_compose x0 x1 x2 x3 x4 u K) : ∃ (rv : Option Value) (u1 : PS), (kV K) rv u1 ∧ XMet l Z i_M_compose [.ref x0, .int x1, .int x2, .int x3, .int x4] u rv u1 := by
  refine x_met (by decide) rfl (Nat.le_of_ble_eq_true rfl) ?_
  show XN l Z i_M_compose u (kV K) u 0 [(0, .ref x0), (1, .int x1), (2, .int x2), (3, .int x3), (4, .int x4)] []
  unfold p_M_compose at k
  obtain ⟨_, u_21, ⟨r_22, rfl, k⟩, hM1⟩ := c_M_isPlace l Z x1 u _ k
  by_cases hc2 : r_22 = 0
  · have k := k.1 hc2
    obtain ⟨rv, v9, hK, hle_u_21, w9⟩ := t_M_compose_J26 l Z u x0 x1 x2 x3 x4 u_21 k
    have hle_u : x_le u v9 := (hM1.1).tr hle_u_21
    refine ⟨rv, v9, hK, hle_u, ?_⟩
    intro p e s m args below meth c A H locs ls F hw hl
    obtain ⟨⟨hx, hb, hml, hown, hts⟩, hr, hlocks, hmn⟩ := id F
    refine lv_iload_n hx hb d_M_compose_0 rfl (lv_at hl 1 rfl) ?_
    refine xr_cS (As := [.int x1]) (rest := []) ⟨hx, hb, hml, hown, hts⟩ hw hM1 hle_u_21 (fun _ _ => ⟨callB_of 1 hts (xgood w_922) rfl rfl rfl (hts _ (xm w_8)) (hts _ (xm w_920)) ⟨by decide, by decide, by decide +kernel⟩ ⟨Nat.le_of_ble_eq_true rfl, Nat.le_of_ble_eq_true rfl⟩, (hts _ (xm w_921))⟩) rfl hl.1 rfl (Nat.le_of_ble_eq_true rfl) d_M_compose_1 (fun H locs hw => ?_)
    refine W.eq (g2 := F0 m 4 ls [.int r_22]) rfl ?_
    refine lv_if_eq (tgt := 26) hx hb d_M_compose_4 (by decide) (fun _ => ?_) (fun c9 => absurd hc2 c9)
    exact w9 p e s m args below meth c A H locs ls F hw (lv_sub hl [0, 1, 2, 3, 4] rfl)
  · have k := k.2 hc2
    obtain ⟨_, u_34, ⟨r_35, rfl, k⟩, hM3⟩ := c_M_isPlace l Z x2 u_21 _ k
    by_cases hc4 : r_35 = 0
    · have k := k.1 hc4
      obtain ⟨rv, v9, hK, hle_u_34, w9⟩ := t_M_compose_J26 l Z u x0 x1 x2 x3 x4 u_34 k
      have hle_u_21 : x_le u_21 v9 := (hM3.1).tr hle_u_34
      have hle_u : x_le u v9 := (hM1.1).tr hle_u_21
      refine ⟨rv, v9, hK, hle_u, ?_⟩
      intro p e s m args below meth c A H locs ls F hw hl
      obtain ⟨⟨hx, hb, hml, hown, hts⟩, hr, hlocks, hmn⟩ := id F
      refine lv_iload_n hx hb d_M_compose_0 rfl (lv_at hl 1 rfl) ?_
      refine xr_cS (As := [.int x1]) (rest := []) ⟨hx, hb, hml, hown, hts⟩ hw hM1 hle_u_21 (fun _ _ => ⟨callB_of 1 hts (xgood w_922) rfl rfl rfl (hts _ (xm w_8)) (hts _ (xm w_920)) ⟨by decide, by decide, by decide +kernel⟩ ⟨Nat.le_of_ble_eq_true rfl, Nat.le_of_ble_eq_true rfl⟩, (hts _ (xm w_921))⟩) rfl hl.1 rfl (Nat.le_of_ble_eq_true rfl) d_M_compose_1 (fun H locs hw => ?_)
      refine W.eq (g2 := F0 m 4 ls [.int r_22]) rfl ?_
      refine lv_if_eq (tgt := 26) hx hb d_M_compose_4 (by decide) (fun c9 => absurd c9 hc2) (fun _ => ?_)
      refine lv_iload_n hx hb d_M_compose_7 rfl (lv_at hl 2 rfl) ?_
      refine xr_cS (As := [.int x2]) (rest := []) ⟨hx, hb, hml, hown, hts⟩ hw hM3 hle_u_34 (fun _ _ => ⟨callB_of 1 hts (xgood w_922) rfl rfl rfl (hts _ (xm w_8)) (hts _ (xm w_920)) ⟨by decide, by decide, by decide +kernel⟩ ⟨Nat.le_of_ble_eq_true rfl, Nat.le_of_ble_eq_true rfl⟩, (hts _ (xm w_921))⟩) rfl hl.1 rfl (Nat.le_of_ble_eq_true rfl) d_M_compose_8 (fun H locs hw => ?_)
      refine W.eq (g2 := F0 m 11 ls [.int r_35]) rfl ?_
      refine lv_if_eq (tgt := 26) hx hb d_M_compose_11 (by decide) (fun _ => ?_) (fun c9 => absurd hc4 c9)
      exact w9 p e s m args below meth c A H locs ls F hw (lv_sub hl [0, 1, 2, 3, 4] rfl)
    · have k := k.2 hc4
      obtain ⟨_, u_36, ⟨r_37, rfl, k⟩, hM5⟩ := c_M_isPlace l Z x4 u_34 _ k
      by_cases hc6 : r_37 = 0
      · have k := k.1 hc6
        obtain ⟨rv, v9, hK, hle_u_36, w9⟩ := t_M_compose_J26 l Z u x0 x1 x2 x3 x4 u_36 k
        have hle_u_34 : x_le u_34 v9 := (hM5.1).tr hle_u_36
        have hle_u_21 : x_le u_21 v9 := (hM3.1).tr hle_u_34
        have hle_u : x_le u v9 := (hM1.1).tr hle_u_21
        refine ⟨rv, v9, hK, hle_u, ?_⟩
        intro p e s m args below meth c A H locs ls F hw hl
        obtain ⟨⟨hx, hb, hml, hown, hts⟩, hr, hlocks, hmn⟩ := id F
        refine lv_iload_n hx hb d_M_compose_0 rfl (lv_at hl 1 rfl) ?_
        refine xr_cS (As := [.int x1]) (rest := []) ⟨hx, hb, hml, hown, hts⟩ hw hM1 hle_u_21 (fun _ _ => ⟨callB_of 1 hts (xgood w_922) rfl rfl rfl (hts _ (xm w_8)) (hts _ (xm w_920)) ⟨by decide, by decide, by decide +kernel⟩ ⟨Nat.le_of_ble_eq_true rfl, Nat.le_of_ble_eq_true rfl⟩, (hts _ (xm w_921))⟩) rfl hl.1 rfl (Nat.le_of_ble_eq_true rfl) d_M_compose_1 (fun H locs hw => ?_)
        refine W.eq (g2 := F0 m 4 ls [.int r_22]) rfl ?_
        refine lv_if_eq (tgt := 26) hx hb d_M_compose_4 (by decide) (fun c9 => absurd c9 hc2) (fun _ => ?_)
        refine lv_iload_n hx hb d_M_compose_7 rfl (lv_at hl 2 rfl) ?_
        refine xr_cS (As := [.int x2]) (rest := []) ⟨hx, hb, hml, hown, hts⟩ hw hM3 hle_u_34 (fun _ _ => ⟨callB_of 1 hts (xgood w_922) rfl rfl rfl (hts _ (xm w_8)) (hts _ (xm w_920)) ⟨by decide, by decide, by decide +kernel⟩ ⟨Nat.le_of_ble_eq_true rfl, Nat.le_of_ble_eq_true rfl⟩, (hts _ (xm w_921))⟩) rfl hl.1 rfl (Nat.le_of_ble_eq_true rfl) d_M_compose_8 (fun H locs hw => ?_)
        refine W.eq (g2 := F0 m 11 ls [.int r_35]) rfl ?_
        refine lv_if_eq (tgt := 26) hx hb d_M_compose_11 (by decide) (fun c9 => absurd c9 hc4) (fun _ => ?_)
        refine lv_iload hx hb d_M_compose_14 (lv_at hl 4 rfl) ?_
        refine xr_cS (As := [.int x4]) (rest := []) ⟨hx, hb, hml, hown, hts⟩ hw hM5 hle_u_36 (fun _ _ => ⟨callB_of 1 hts (xgood w_922) rfl rfl rfl (hts _ (xm w_8)) (hts _ (xm w_920)) ⟨by decide, by decide, by decide +kernel⟩ ⟨Nat.le_of_ble_eq_true rfl, Nat.le_of_ble_eq_true rfl⟩, (hts _ (xm w_921))⟩) rfl hl.1 rfl (Nat.le_of_ble_eq_true rfl) d_M_compose_16 (fun H locs hw => ?_)
        refine W.eq (g2 := F0 m 19 ls [.int r_37]) rfl ?_
        refine lv_if_eq (tgt := 26) hx hb d_M_compose_19 (by decide) (fun _ => ?_) (fun c9 => absurd hc6 c9)
        exact w9 p e s m args below meth c A H locs ls F hw (lv_sub hl [0, 1, 2, 3, 4] rfl)
      · have k := k.2 hc6
        obtain ⟨rv, v9, hK, hle_u_36, w9⟩ := t_M_compose_J27 l Z u x0 x1 x2 x3 x4 (1 : Int32) u_36 k
        have hle_u_34 : x_le u_34 v9 := (hM5.1).tr hle_u_36
        have hle_u_21 : x_le u_21 v9 := (hM3.1).tr hle_u_34
        have hle_u : x_le u v9 := (hM1.1).tr hle_u_21
        refine ⟨rv, v9, hK, hle_u, ?_⟩
        intro p e s m args below meth c A H locs ls F hw hl
        obtain ⟨⟨hx, hb, hml, hown, hts⟩, hr, hlocks, hmn⟩ := id F
        refine lv_iload_n hx hb d_M_compose_0 rfl (lv_at hl 1 rfl) ?_
        refine xr_cS (As := [.int x1]) (rest := []) ⟨hx, hb, hml, hown, hts⟩ hw hM1 hle_u_21 (fun _ _ => ⟨callB_of 1 hts (xgood w_922) rfl rfl rfl (hts _ (xm w_8)) (hts _ (xm w_920)) ⟨by decide, by decide, by decide +kernel⟩ ⟨Nat.le_of_ble_eq_true rfl, Nat.le_of_ble_eq_true rfl⟩, (hts _ (xm w_921))⟩) rfl hl.1 rfl (Nat.le_of_ble_eq_true rfl) d_M_compose_1 (fun H locs hw => ?_)
        refine W.eq (g2 := F0 m 4 ls [.int r_22]) rfl ?_
        refine lv_if_eq (tgt := 26) hx hb d_M_compose_4 (by decide) (fun c9 => absurd c9 hc2) (fun _ => ?_)
        refine lv_iload_n hx hb d_M_compose_7 rfl (lv_at hl 2 rfl) ?_
        refine xr_cS (As := [.int x2]) (rest := []) ⟨hx, hb, hml, hown, hts⟩ hw hM3 hle_u_34 (fun _ _ => ⟨callB_of 1 hts (xgood w_922) rfl rfl rfl (hts _ (xm w_8)) (hts _ (xm w_920)) ⟨by decide, by decide, by decide +kernel⟩ ⟨Nat.le_of_ble_eq_true rfl, Nat.le_of_ble_eq_true rfl⟩, (hts _ (xm w_921))⟩) rfl hl.1 rfl (Nat.le_of_ble_eq_true rfl) d_M_compose_8 (fun H locs hw => ?_)
        refine W.eq (g2 := F0 m 11 ls [.int r_35]) rfl ?_
        refine lv_if_eq (tgt := 26) hx hb d_M_compose_11 (by decide) (fun c9 => absurd c9 hc4) (fun _ => ?_)
        refine lv_iload hx hb d_M_compose_14 (lv_at hl 4 rfl) ?_
        refine xr_cS (As := [.int x4]) (rest := []) ⟨hx, hb, hml, hown, hts⟩ hw hM5 hle_u_36 (fun _ _ => ⟨callB_of 1 hts (xgood w_922) rfl rfl rfl (hts _ (xm w_8)) (hts _ (xm w_920)) ⟨by decide, by decide, by decide +kernel⟩ ⟨Nat.le_of_ble_eq_true rfl, Nat.le_of_ble_eq_true rfl⟩, (hts _ (xm w_921))⟩) rfl hl.1 rfl (Nat.le_of_ble_eq_true rfl) d_M_compose_16 (fun H locs hw => ?_)
        refine W.eq (g2 := F0 m 19 ls [.int r_37]) rfl ?_
        refine lv_if_eq (tgt := 26) hx hb d_M_compose_19 (by decide) (fun c9 => absurd c9 hc6) (fun _ => ?_)
        refine lv_iconst (v := 1) hx hb d_M_compose_22 (by decide) ?_
        refine lv_goto (tgt := 27) hx hb d_M_compose_23 (by decide) ?_
        exact w9 p e s m args below meth c A H locs ls F hw (lv_sub hl [0, 1, 2, 3, 4] rfl)
set_option maxRecDepth 100000 in
set_option maxHeartbeats 4000000 in
theorem t_M_quantifyMade_J121 (l : Launch) (Z : XZ) (u0 : PS) {Kv : Option Value → PS → Prop} {R : Int32 → PS → Prop} {E127 : PS → Prop} (x0 : Nat) (x1 : Int32) (x2 : Int32) (x3 : Int32) (x4 : Int32) (u : PS) (hR : ∀ (y4 : Int32) (v : PS), R y4 v → XN l Z i_M_quantifyMade u0 Kv v 11 [(0, .ref x0), (1, .int x1), (2, .int x2), (3, .int x3), (4, .int y4)] []) (hE127 : ∀ (v : PS), E127 v → XN l Z i_M_quantifyMade u0 Kv v 127 [(0, .ref x0), (1, .int x1), (2, .int x2), (3, .int x3)] []) (k : (p_M_quantifyMade_J121 R E127 x0 x1 x2 x3 x4 u)) : XN l Z i_M_quantifyMade u0 Kv u 121 [(0, .ref x0), (1, .int x1), (2, .int x2), (3, .int x3), (4, .int x4)] [] := by
  unfold p_M_quantifyMade_J121 at k
  obtain ⟨y1, ey1⟩ : ∃ y9 : Int32, y9 = x4 + 1 := ⟨_, rfl⟩
  have k := k y1 ey1
  obtain ⟨rv, v9, hK, hle_u, w9⟩ := hR y1 u k
  refine ⟨rv, v9, hK, hle_u, ?_⟩
  intro p e s m args below meth c A H locs ls F hw hl
  obtain ⟨⟨hx, hb, hml, hown, hts⟩, hr, hlocks, hmn⟩ := id F
  refine lv_iinc (v := y1) (lv' := [(4, .int y1), (0, .ref x0), (1, .int x1), (2, .int x2), (3, .int x3)]) hx hb d_M_quantifyMade_121 hl (k := 4) rfl (by subst ey1; rfl) (by decide) rfl (fun ls hl => ?_)
  refine lv_goto (tgt := 11) hx hb d_M_quantifyMade_124 (by decide) ?_
  exact w9 p e s m args below meth c A H locs ls F hw (lv_sub hl [1, 2, 3, 4, 0] rfl)
set_option maxRecDepth 100000 in
set_option maxHeartbeats 4000000 in
theorem t_M_quantifyMade_J102 (l : Launch) (Z : XZ) (u0 : PS) {Kv : Option Value → PS → Prop} {R : Int32 → PS → Prop} {E127 : PS → Prop} (x0 : Nat) (x1 : Int32) (x2 : Int32) (x3 : Int32) (x4 : Int32) (s0 : Nat) (s1 : Int32) (s2 : Int32) (u : PS) (hR : ∀ (y4 : Int32) (v : PS), R y4 v → XN l Z i_M_quantifyMade u0 Kv v 11 [(0, .ref x0), (1, .int x1), (2, .int x2), (3, .int x3), (4, .int y4)] []) (hE127 : ∀ (v : PS), E127 v → XN l Z i_M_quantifyMade u0 Kv v 127 [(0, .ref x0), (1, .int x1), (2, .int x2), (3, .int x3)] []) (k : (p_M_quantifyMade_J102 R E127 x0 x1 x2 x3 x4 s0 s1 s2 u)) : XN l Z i_M_quantifyMade u0 Kv u 102 [(0, .ref x0), (1, .int x1), (2, .int x2), (3, .int x3), (4, .int x4)] [.int s2, .int s1, .ref s0] := by
  unfold p_M_quantifyMade_J102 at k
  obtain ⟨u_22, h1, k⟩ := k
  obtain ⟨z_23, h2, k⟩ := k
  obtain ⟨z_24, h3, k⟩ := k
  obtain ⟨z_25, h4, k⟩ := k
  obtain ⟨u_26, h5, k⟩ := k
  obtain ⟨rv, v9, hK, hle_u_26, w9⟩ := t_M_quantifyMade_J121 l Z u0 x0 x1 x2 x3 x4 u_26 hR hE127 k
  have hle_u_22 : x_le u_22 v9 := (h5.le).tr hle_u_26
  have hle_u : x_le u v9 := (h1.le).tr hle_u_22
  refine ⟨rv, v9, hK, hle_u, ?_⟩
  intro p e s m args below meth c A H locs ls F hw hl
  obtain ⟨⟨hx, hb, hml, hown, hts⟩, hr, hlocks, hmn⟩ := id F
  refine xr_zast hx hb hw h1 d_M_quantifyMade_102 (fun H locs hw => ?_)
  refine lv_aload_n hx hb d_M_quantifyMade_103 rfl (lv_at hl 0 rfl) ?_
  refine xr_get hx hb hts (xmu uws_M) hown hw h2 rfl (by decide) (hts _ (xm w_870)) (fun _ h9 => h9) d_M_quantifyMade_104 ?_
  refine lv_iload hx hb d_M_quantifyMade_107 (lv_at hl 4 rfl) ?_
  refine lv_iconst (v := 1) hx hb d_M_quantifyMade_109 (by decide) ?_
  refine lv_iload_n hx hb d_M_quantifyMade_110 rfl (lv_at hl 3 rfl) ?_
  refine lv_ishl hx hb d_M_quantifyMade_111 ?_
  refine lv_ior hx hb d_M_quantifyMade_112 ?_
  refine lv_aload_n hx hb d_M_quantifyMade_113 rfl (lv_at hl 0 rfl) ?_
  refine xr_get hx hb hts (xmu uws_M) hown hw h3 rfl (by decide) (hts _ (xm w_870)) (fun _ h9 => h9) d_M_quantifyMade_114 ?_
  refine lv_iload hx hb d_M_quantifyMade_117 (lv_at hl 4 rfl) ?_
  refine xr_zald hx hb hw h4 d_M_quantifyMade_119 ?_
  refine xr_zast hx hb hw h5 d_M_quantifyMade_120 (fun H locs hw => ?_)
  exact w9 p e s m args below meth c A H locs ls F hw (lv_sub hl [0, 1, 2, 3, 4] rfl)
set_option maxRecDepth 100000 in
set_option maxHeartbeats 4000000 in
theorem t_M_quantifyMade_J97 (l : Launch) (Z : XZ) (u0 : PS) {Kv : Option Value → PS → Prop} {R : Int32 → PS → Prop} {E127 : PS → Prop} (x0 : Nat) (x1 : Int32) (x2 : Int32) (x3 : Int32) (x4 : Int32) (s0 : Nat) (s1 : Int32) (u : PS) (hR : ∀ (y4 : Int32) (v : PS), R y4 v → XN l Z i_M_quantifyMade u0 Kv v 11 [(0, .ref x0), (1, .int x1), (2, .int x2), (3, .int x3), (4, .int y4)] []) (hE127 : ∀ (v : PS), E127 v → XN l Z i_M_quantifyMade u0 Kv v 127 [(0, .ref x0), (1, .int x1), (2, .int x2), (3, .int x3)] []) (k : (p_M_quantifyMade_J97 R E127 x0 x1 x2 x3 x4 s0 s1 u)) : XN l Z i_M_quantifyMade u0 Kv u 97 [(0, .ref x0), (1, .int x1), (2, .int x2), (3, .int x3), (4, .int x4)] [.int s1, .ref s0] := by
  unfold p_M_quantifyMade_J97 at k
  obtain ⟨rv, v9, hK, hle_u, w9⟩ := t_M_quantifyMade_J102 l Z u0 x0 x1 x2 x3 x4 s0 s1 (1 : Int32) u hR hE127 k
  refine ⟨rv, v9, hK, hle_u, ?_⟩
  intro p e s m args below meth c A H locs ls F hw hl
  obtain ⟨⟨hx, hb, hml, hown, hts⟩, hr, hlocks, hmn⟩ := id F
  refine lv_iconst (v := 1) hx hb d_M_quantifyMade_97 (by decide) ?_
  refine lv_goto (tgt := 102) hx hb d_M_quantifyMade_98 (by decide) ?_
  exact w9 p e s m args below meth c A H locs ls F hw (lv_sub hl [0, 1, 2, 3, 4] rfl)
set_option maxRecDepth 100000 in
set_option maxHeartbeats 4000000 in
theorem t_M_quantifyMade_J83 (l : Launch) (Z : XZ) (u0 : PS) {Kv : Option Value → PS → Prop} {R : Int32 → PS → Prop} {E127 : PS → Prop} (x0 : Nat) (x1 : Int32) (x2 : Int32) (x3 : Int32) (x4 : Int32) (s0 : Nat) (s1 : Int32) (u : PS) (hR : ∀ (y4 : Int32) (v : PS), R y4 v → XN l Z i_M_quantifyMade u0 Kv v 11 [(0, .ref x0), (1, .int x1), (2, .int x2), (3, .int x3), (4, .int y4)] []) (hE127 : ∀ (v : PS), E127 v → XN l Z i_M_quantifyMade u0 Kv v 127 [(0, .ref x0), (1, .int x1), (2, .int x2), (3, .int x3)] []) (k : (p_M_quantifyMade_J83 R E127 x0 x1 x2 x3 x4 s0 s1 u)) : XN l Z i_M_quantifyMade u0 Kv u 83 [(0, .ref x0), (1, .int x1), (2, .int x2), (3, .int x3), (4, .int x4)] [.int s1, .ref s0] := by
  unfold p_M_quantifyMade_J83 at k
  obtain ⟨rv, v9, hK, hle_u, w9⟩ := t_M_quantifyMade_J102 l Z u0 x0 x1 x2 x3 x4 s0 s1 (0 : Int32) u hR hE127 k
  refine ⟨rv, v9, hK, hle_u, ?_⟩
  intro p e s m args below meth c A H locs ls F hw hl
  obtain ⟨⟨hx, hb, hml, hown, hts⟩, hr, hlocks, hmn⟩ := id F
  refine lv_iconst (v := 0) hx hb d_M_quantifyMade_83 (by decide) ?_
  refine lv_goto (tgt := 102) hx hb d_M_quantifyMade_84 (by decide) ?_
  exact w9 p e s m args below meth c A H locs ls F hw (lv_sub hl [0, 1, 2, 3, 4] rfl)
set_option maxRecDepth 100000 in
set_option maxHeartbeats 4000000 in
theorem t_M_quantifyMade_L11 (l : Launch) (Z : XZ) (u0 : PS) {Kv : Option Value → PS → Prop} {E127 : PS → Prop} (x0 : Nat) (x1 : Int32) (x2 : Int32) (x3 : Int32) (hE127 : ∀ (v : PS), E127 v → XN l Z i_M_quantifyMade u0 Kv v 127 [(0, .ref x0), (1, .int x1), (2, .int x2), (3, .int x3)] []) : ∀ (n : Nat) (x4 : Int32) (u : PS), p_M_quantifyMade_L11 x0 x1 x2 x3 E127 n x4 u → XN l Z i_M_quantifyMade u0 Kv u 11 [(0, .ref x0), (1, .int x1), (2, .int x2), (3, .int x3), (4, .int x4)] [] := by
  intro n
  induction n with
  | zero => intro x4 u k; exact False.elim k
  | succ n ih =>
    intro x4 u k
    rw [p_M_quantifyMade_L11] at k
    by_cases hc1 : 1024 ≤ x4
    · have k := k.1 hc1
      obtain ⟨rv, v9, hK, hle_u, w9⟩ := hE127 u k
      refine ⟨rv, v9, hK, hle_u, ?_⟩
      intro p e s m args below meth c A H locs ls F hw hl
      obtain ⟨⟨hx, hb, hml, hown, hts⟩, hr, hlocks, hmn⟩ := id F
      refine lv_iload hx hb d_M_quantifyMade_11 (lv_at hl 4 rfl) ?_
      refine lv_sipush (v := 1024) hx hb d_M_quantifyMade_13 (by decide) ?_
      refine lv_icmp_ge (tgt := 127) hx hb d_M_quantifyMade_16 (by decide) (fun _ => ?_) (fun c9 => absurd hc1 c9)
      exact w9 p e s m args below meth c A H locs ls F hw (lv_sub hl [0, 1, 2, 3] rfl)
    · have k := k.2 hc1
      by_cases hc2 : ((x1 >>> (x3 &&& 31)) &&& (1 : Int32)) = 1
      · have k := k.2 hc2
        by_cases hc3 : ((x4 >>> (x3 &&& 31)) &&& (1 : Int32)) = 0
        · have k := k.2 hc3
          obtain ⟨z_17, h4, k⟩ := k
          obtain ⟨z_18, h5, k⟩ := k
          obtain ⟨z_19, h6, k⟩ := k
          obtain ⟨z_20, h7, k⟩ := k
          obtain ⟨z_21, h8, k⟩ := k
          by_cases hc9 : x2 = 0
          · have k := k.1 hc9
            by_cases hc10 : z_18 = 0
            · have k := k.2 hc10
              by_cases hc11 : z_20 = 0
              · have k := k.1 hc11
                obtain ⟨rv, v9, hK, hle_u, w9⟩ := t_M_quantifyMade_J102 l Z u0 x0 x1 x2 x3 x4 z_21 x4 (0 : Int32) u ih hE127 k
                refine ⟨rv, v9, hK, hle_u, ?_⟩
                intro p e s m args below meth c A H locs ls F hw hl
                obtain ⟨⟨hx, hb, hml, hown, hts⟩, hr, hlocks, hmn⟩ := id F
                refine lv_iload hx hb d_M_quantifyMade_11 (lv_at hl 4 rfl) ?_
                refine lv_sipush (v := 1024) hx hb d_M_quantifyMade_13 (by decide) ?_
                refine lv_icmp_ge (tgt := 127) hx hb d_M_quantifyMade_16 (by decide) (fun c9 => absurd c9 hc1) (fun _ => ?_)
                refine lv_iload_n hx hb d_M_quantifyMade_19 rfl (lv_at hl 1 rfl) ?_
                refine lv_iload_n hx hb d_M_quantifyMade_20 rfl (lv_at hl 3 rfl) ?_
                refine lv_ishr hx hb d_M_quantifyMade_21 ?_
                refine lv_iconst (v := 1) hx hb d_M_quantifyMade_22 (by decide) ?_
                refine lv_iand hx hb d_M_quantifyMade_23 ?_
                refine lv_iconst (v := 1) hx hb d_M_quantifyMade_24 (by decide) ?_
                refine lv_icmp_ne (tgt := 127) hx hb d_M_quantifyMade_25 (by decide) (fun c9 => absurd hc2 c9) (fun _ => ?_)
                refine lv_iload hx hb d_M_quantifyMade_28 (lv_at hl 4 rfl) ?_
                refine lv_iload_n hx hb d_M_quantifyMade_30 rfl (lv_at hl 3 rfl) ?_
                refine lv_ishr hx hb d_M_quantifyMade_31 ?_
                refine lv_iconst (v := 1) hx hb d_M_quantifyMade_32 (by decide) ?_
                refine lv_iand hx hb d_M_quantifyMade_33 ?_
                refine lv_if_ne (tgt := 121) hx hb d_M_quantifyMade_34 (by decide) (fun c9 => absurd hc3 c9) (fun _ => ?_)
                refine lv_aload_n hx hb d_M_quantifyMade_37 rfl (lv_at hl 0 rfl) ?_
                refine xr_get hx hb hts (xmu uws_M) hown hw h4 rfl (by decide) (hts _ (xm w_870)) (fun _ h9 => h9) d_M_quantifyMade_38 ?_
                refine lv_iload hx hb d_M_quantifyMade_41 (lv_at hl 4 rfl) ?_
                refine xr_zald hx hb hw h5 d_M_quantifyMade_43 ?_
                refine lv_istore (lv' := [(5, .int z_18), (0, .ref x0), (1, .int x1), (2, .int x2), (3, .int x3), (4, .int x4)]) hx hb d_M_quantifyMade_44 hl (by decide) rfl (fun ls hl => ?_)
                refine lv_aload_n hx hb d_M_quantifyMade_46 rfl (lv_at hl 1 rfl) ?_
                refine xr_get hx hb hts (xmu uws_M) hown hw h6 rfl (by decide) (hts _ (xm w_870)) (fun _ h9 => h9) d_M_quantifyMade_47 ?_
                refine lv_iload hx hb d_M_quantifyMade_50 (lv_at hl 5 rfl) ?_
                refine lv_iconst (v := 1) hx hb d_M_quantifyMade_52 (by decide) ?_
                refine lv_iload_n hx hb d_M_quantifyMade_53 rfl (lv_at hl 4 rfl) ?_
                refine lv_ishl hx hb d_M_quantifyMade_54 ?_
                refine lv_ior hx hb d_M_quantifyMade_55 ?_
                refine xr_zald hx hb hw h7 d_M_quantifyMade_56 ?_
                refine lv_istore (lv' := [(6, .int z_20), (5, .int z_18), (0, .ref x0), (1, .int x1), (2, .int x2), (3, .int x3), (4, .int x4)]) hx hb d_M_quantifyMade_57 hl (by decide) rfl (fun ls hl => ?_)
                refine lv_aload_n hx hb d_M_quantifyMade_59 rfl (lv_at hl 2 rfl) ?_
                refine xr_get hx hb hts (xmu uws_M) hown hw h8 rfl (by decide) (hts _ (xm w_870)) (fun _ h9 => h9) d_M_quantifyMade_60 ?_
                refine lv_iload hx hb d_M_quantifyMade_63 (lv_at hl 6 rfl) ?_
                refine lv_iload_n hx hb d_M_quantifyMade_65 rfl (lv_at hl 4 rfl) ?_
                refine lv_if_eq (tgt := 87) hx hb d_M_quantifyMade_66 (by decide) (fun _ => ?_) (fun c9 => absurd hc9 c9)
                refine lv_iload hx hb d_M_quantifyMade_87 (lv_at hl 1 rfl) ?_
                refine lv_if_ne (tgt := 97) hx hb d_M_quantifyMade_89 (by decide) (fun c9 => absurd hc10 c9) (fun _ => ?_)
                refine lv_iload hx hb d_M_quantifyMade_92 (lv_at hl 0 rfl) ?_
                refine lv_if_eq (tgt := 101) hx hb d_M_quantifyMade_94 (by decide) (fun _ => ?_) (fun c9 => absurd hc11 c9)
                refine lv_iconst (v := 0) hx hb d_M_quantifyMade_101 (by decide) ?_
                exact w9 p e s m args below meth c A H locs ls F hw (lv_sub hl [2, 3, 4, 5, 6] rfl)
              · have k := k.2 hc11
                obtain ⟨rv, v9, hK, hle_u, w9⟩ := t_M_quantifyMade_J97 l Z u0 x0 x1 x2 x3 x4 z_21 x4 u ih hE127 k
                refine ⟨rv, v9, hK, hle_u, ?_⟩
                intro p e s m args below meth c A H locs ls F hw hl
                obtain ⟨⟨hx, hb, hml, hown, hts⟩, hr, hlocks, hmn⟩ := id F
                refine lv_iload hx hb d_M_quantifyMade_11 (lv_at hl 4 rfl) ?_
                refine lv_sipush (v := 1024) hx hb d_M_quantifyMade_13 (by decide) ?_
                refine lv_icmp_ge (tgt := 127) hx hb d_M_quantifyMade_16 (by decide) (fun c9 => absurd c9 hc1) (fun _ => ?_)
                refine lv_iload_n hx hb d_M_quantifyMade_19 rfl (lv_at hl 1 rfl) ?_
                refine lv_iload_n hx hb d_M_quantifyMade_20 rfl (lv_at hl 3 rfl) ?_
                refine lv_ishr hx hb d_M_quantifyMade_21 ?_
                refine lv_iconst (v := 1) hx hb d_M_quantifyMade_22 (by decide) ?_
                refine lv_iand hx hb d_M_quantifyMade_23 ?_
                refine lv_iconst (v := 1) hx hb d_M_quantifyMade_24 (by decide) ?_
                refine lv_icmp_ne (tgt := 127) hx hb d_M_quantifyMade_25 (by decide) (fun c9 => absurd hc2 c9) (fun _ => ?_)
                refine lv_iload hx hb d_M_quantifyMade_28 (lv_at hl 4 rfl) ?_
                refine lv_iload_n hx hb d_M_quantifyMade_30 rfl (lv_at hl 3 rfl) ?_
                refine lv_ishr hx hb d_M_quantifyMade_31 ?_
                refine lv_iconst (v := 1) hx hb d_M_quantifyMade_32 (by decide) ?_
                refine lv_iand hx hb d_M_quantifyMade_33 ?_
                refine lv_if_ne (tgt := 121) hx hb d_M_quantifyMade_34 (by decide) (fun c9 => absurd hc3 c9) (fun _ => ?_)
                refine lv_aload_n hx hb d_M_quantifyMade_37 rfl (lv_at hl 0 rfl) ?_
                refine xr_get hx hb hts (xmu uws_M) hown hw h4 rfl (by decide) (hts _ (xm w_870)) (fun _ h9 => h9) d_M_quantifyMade_38 ?_
                refine lv_iload hx hb d_M_quantifyMade_41 (lv_at hl 4 rfl) ?_
                refine xr_zald hx hb hw h5 d_M_quantifyMade_43 ?_
                refine lv_istore (lv' := [(5, .int z_18), (0, .ref x0), (1, .int x1), (2, .int x2), (3, .int x3), (4, .int x4)]) hx hb d_M_quantifyMade_44 hl (by decide) rfl (fun ls hl => ?_)
                refine lv_aload_n hx hb d_M_quantifyMade_46 rfl (lv_at hl 1 rfl) ?_
                refine xr_get hx hb hts (xmu uws_M) hown hw h6 rfl (by decide) (hts _ (xm w_870)) (fun _ h9 => h9) d_M_quantifyMade_47 ?_
                refine lv_iload hx hb d_M_quantifyMade_50 (lv_at hl 5 rfl) ?_
                refine lv_iconst (v := 1) hx hb d_M_quantifyMade_52 (by decide) ?_
                refine lv_iload_n hx hb d_M_quantifyMade_53 rfl (lv_at hl 4 rfl) ?_
                refine lv_ishl hx hb d_M_quantifyMade_54 ?_
                refine lv_ior hx hb d_M_quantifyMade_55 ?_
                refine xr_zald hx hb hw h7 d_M_quantifyMade_56 ?_
                refine lv_istore (lv' := [(6, .int z_20), (5, .int z_18), (0, .ref x0), (1, .int x1), (2, .int x2), (3, .int x3), (4, .int x4)]) hx hb d_M_quantifyMade_57 hl (by decide) rfl (fun ls hl => ?_)
                refine lv_aload_n hx hb d_M_quantifyMade_59 rfl (lv_at hl 2 rfl) ?_
                refine xr_get hx hb hts (xmu uws_M) hown hw h8 rfl (by decide) (hts _ (xm w_870)) (fun _ h9 => h9) d_M_quantifyMade_60 ?_
                refine lv_iload hx hb d_M_quantifyMade_63 (lv_at hl 6 rfl) ?_
                refine lv_iload_n hx hb d_M_quantifyMade_65 rfl (lv_at hl 4 rfl) ?_
                refine lv_if_eq (tgt := 87) hx hb d_M_quantifyMade_66 (by decide) (fun _ => ?_) (fun c9 => absurd hc9 c9)
                refine lv_iload hx hb d_M_quantifyMade_87 (lv_at hl 1 rfl) ?_
                refine lv_if_ne (tgt := 97) hx hb d_M_quantifyMade_89 (by decide) (fun c9 => absurd hc10 c9) (fun _ => ?_)
                refine lv_iload hx hb d_M_quantifyMade_92 (lv_at hl 0 rfl) ?_
                refine lv_if_eq (tgt := 101) hx hb d_M_quantifyMade_94 (by decide) (fun c9 => absurd c9 hc11) (fun _ => ?_)
                exact w9 p e s m args below meth c A H locs ls F hw (lv_sub hl [2, 3, 4, 5, 6] rfl)
            · have k := k.1 hc10
              obtain ⟨rv, v9, hK, hle_u, w9⟩ := t_M_quantifyMade_J97 l Z u0 x0 x1 x2 x3 x4 z_21 x4 u ih hE127 k
              refine ⟨rv, v9, hK, hle_u, ?_⟩
              intro p e s m args below meth c A H locs ls F hw hl
              obtain ⟨⟨hx, hb, hml, hown, hts⟩, hr, hlocks, hmn⟩ := id F
              refine lv_iload hx hb d_M_quantifyMade_11 (lv_at hl 4 rfl) ?_
              refine lv_sipush (v := 1024) hx hb d_M_quantifyMade_13 (by decide) ?_
              refine lv_icmp_ge (tgt := 127) hx hb d_M_quantifyMade_16 (by decide) (fun c9 => absurd c9 hc1) (fun _ => ?_)
              refine lv_iload_n hx hb d_M_quantifyMade_19 rfl (lv_at hl 1 rfl) ?_
              refine lv_iload_n hx hb d_M_quantifyMade_20 rfl (lv_at hl 3 rfl) ?_
              refine lv_ishr hx hb d_M_quantifyMade_21 ?_
              refine lv_iconst (v := 1) hx hb d_M_quantifyMade_22 (by decide) ?_
              refine lv_iand hx hb d_M_quantifyMade_23 ?_
              refine lv_iconst (v := 1) hx hb d_M_quantifyMade_24 (by decide) ?_
              refine lv_icmp_ne (tgt := 127) hx hb d_M_quantifyMade_25 (by decide) (fun c9 => absurd hc2 c9) (fun _ => ?_)
              refine lv_iload hx hb d_M_quantifyMade_28 (lv_at hl 4 rfl) ?_
              refine lv_iload_n hx hb d_M_quantifyMade_30 rfl (lv_at hl 3 rfl) ?_
              refine lv_ishr hx hb d_M_quantifyMade_31 ?_
              refine lv_iconst (v := 1) hx hb d_M_quantifyMade_32 (by decide) ?_
              refine lv_iand hx hb d_M_quantifyMade_33 ?_
              refine lv_if_ne (tgt := 121) hx hb d_M_quantifyMade_34 (by decide) (fun c9 => absurd hc3 c9) (fun _ => ?_)
              refine lv_aload_n hx hb d_M_quantifyMade_37 rfl (lv_at hl 0 rfl) ?_
              refine xr_get hx hb hts (xmu uws_M) hown hw h4 rfl (by decide) (hts _ (xm w_870)) (fun _ h9 => h9) d_M_quantifyMade_38 ?_
              refine lv_iload hx hb d_M_quantifyMade_41 (lv_at hl 4 rfl) ?_
              refine xr_zald hx hb hw h5 d_M_quantifyMade_43 ?_
              refine lv_istore (lv' := [(5, .int z_18), (0, .ref x0), (1, .int x1), (2, .int x2), (3, .int x3), (4, .int x4)]) hx hb d_M_quantifyMade_44 hl (by decide) rfl (fun ls hl => ?_)
              refine lv_aload_n hx hb d_M_quantifyMade_46 rfl (lv_at hl 1 rfl) ?_
              refine xr_get hx hb hts (xmu uws_M) hown hw h6 rfl (by decide) (hts _ (xm w_870)) (fun _ h9 => h9) d_M_quantifyMade_47 ?_
              refine lv_iload hx hb d_M_quantifyMade_50 (lv_at hl 5 rfl) ?_
              refine lv_iconst (v := 1) hx hb d_M_quantifyMade_52 (by decide) ?_
              refine lv_iload_n hx hb d_M_quantifyMade_53 rfl (lv_at hl 4 rfl) ?_
              refine lv_ishl hx hb d_M_quantifyMade_54 ?_
              refine lv_ior hx hb d_M_quantifyMade_55 ?_
              refine xr_zald hx hb hw h7 d_M_quantifyMade_56 ?_
              refine lv_istore (lv' := [(6, .int z_20), (5, .int z_18), (0, .ref x0), (1, .int x1), (2, .int x2), (3, .int x3), (4, .int x4)]) hx hb d_M_quantifyMade_57 hl (by decide) rfl (fun ls hl => ?_)
              refine lv_aload_n hx hb d_M_quantifyMade_59 rfl (lv_at hl 2 rfl) ?_
              refine xr_get hx hb hts (xmu uws_M) hown hw h8 rfl (by decide) (hts _ (xm w_870)) (fun _ h9 => h9) d_M_quantifyMade_60 ?_
              refine lv_iload hx hb d_M_quantifyMade_63 (lv_at hl 6 rfl) ?_
              refine lv_iload_n hx hb d_M_quantifyMade_65 rfl (lv_at hl 4 rfl) ?_
              refine lv_if_eq (tgt := 87) hx hb d_M_quantifyMade_66 (by decide) (fun _ => ?_) (fun c9 => absurd hc9 c9)
              refine lv_iload hx hb d_M_quantifyMade_87 (lv_at hl 1 rfl) ?_
              refine lv_if_ne (tgt := 97) hx hb d_M_quantifyMade_89 (by decide) (fun _ => ?_) (fun c9 => absurd c9 hc10)
              exact w9 p e s m args below meth c A H locs ls F hw (lv_sub hl [2, 3, 4, 5, 6] rfl)
          · have k := k.2 hc9
            by_cases hc12 : z_18 = 0
            · have k := k.1 hc12
              obtain ⟨rv, v9, hK, hle_u, w9⟩ := t_M_quantifyMade_J83 l Z u0 x0 x1 x2 x3 x4 z_21 x4 u ih hE127 k
              refine ⟨rv, v9, hK, hle_u, ?_⟩
              intro p e s m args below meth c A H locs ls F hw hl
              obtain ⟨⟨hx, hb, hml, hown, hts⟩, hr, hlocks, hmn⟩ := id F
              refine lv_iload hx hb d_M_quantifyMade_11 (lv_at hl 4 rfl) ?_
              refine lv_sipush (v := 1024) hx hb d_M_quantifyMade_13 (by decide) ?_
              refine lv_icmp_ge (tgt := 127) hx hb d_M_quantifyMade_16 (by decide) (fun c9 => absurd c9 hc1) (fun _ => ?_)
              refine lv_iload_n hx hb d_M_quantifyMade_19 rfl (lv_at hl 1 rfl) ?_
              refine lv_iload_n hx hb d_M_quantifyMade_20 rfl (lv_at hl 3 rfl) ?_
              refine lv_ishr hx hb d_M_quantifyMade_21 ?_
              refine lv_iconst (v := 1) hx hb d_M_quantifyMade_22 (by decide) ?_
              refine lv_iand hx hb d_M_quantifyMade_23 ?_
              refine lv_iconst (v := 1) hx hb d_M_quantifyMade_24 (by decide) ?_
              refine lv_icmp_ne (tgt := 127) hx hb d_M_quantifyMade_25 (by decide) (fun c9 => absurd hc2 c9) (fun _ => ?_)
              refine lv_iload hx hb d_M_quantifyMade_28 (lv_at hl 4 rfl) ?_
              refine lv_iload_n hx hb d_M_quantifyMade_30 rfl (lv_at hl 3 rfl) ?_
              refine lv_ishr hx hb d_M_quantifyMade_31 ?_
              refine lv_iconst (v := 1) hx hb d_M_quantifyMade_32 (by decide) ?_
              refine lv_iand hx hb d_M_quantifyMade_33 ?_
              refine lv_if_ne (tgt := 121) hx hb d_M_quantifyMade_34 (by decide) (fun c9 => absurd hc3 c9) (fun _ => ?_)
              refine lv_aload_n hx hb d_M_quantifyMade_37 rfl (lv_at hl 0 rfl) ?_
              refine xr_get hx hb hts (xmu uws_M) hown hw h4 rfl (by decide) (hts _ (xm w_870)) (fun _ h9 => h9) d_M_quantifyMade_38 ?_
              refine lv_iload hx hb d_M_quantifyMade_41 (lv_at hl 4 rfl) ?_
              refine xr_zald hx hb hw h5 d_M_quantifyMade_43 ?_
              refine lv_istore (lv' := [(5, .int z_18), (0, .ref x0), (1, .int x1), (2, .int x2), (3, .int x3), (4, .int x4)]) hx hb d_M_quantifyMade_44 hl (by decide) rfl (fun ls hl => ?_)
              refine lv_aload_n hx hb d_M_quantifyMade_46 rfl (lv_at hl 1 rfl) ?_
              refine xr_get hx hb hts (xmu uws_M) hown hw h6 rfl (by decide) (hts _ (xm w_870)) (fun _ h9 => h9) d_M_quantifyMade_47 ?_
              refine lv_iload hx hb d_M_quantifyMade_50 (lv_at hl 5 rfl) ?_
              refine lv_iconst (v := 1) hx hb d_M_quantifyMade_52 (by decide) ?_
              refine lv_iload_n hx hb d_M_quantifyMade_53 rfl (lv_at hl 4 rfl) ?_
              refine lv_ishl hx hb d_M_quantifyMade_54 ?_
              refine lv_ior hx hb d_M_quantifyMade_55 ?_
              refine xr_zald hx hb hw h7 d_M_quantifyMade_56 ?_
              refine lv_istore (lv' := [(6, .int z_20), (5, .int z_18), (0, .ref x0), (1, .int x1), (2, .int x2), (3, .int x3), (4, .int x4)]) hx hb d_M_quantifyMade_57 hl (by decide) rfl (fun ls hl => ?_)
              refine lv_aload_n hx hb d_M_quantifyMade_59 rfl (lv_at hl 2 rfl) ?_
              refine xr_get hx hb hts (xmu uws_M) hown hw h8 rfl (by decide) (hts _ (xm w_870)) (fun _ h9 => h9) d_M_quantifyMade_60 ?_
              refine lv_iload hx hb d_M_quantifyMade_63 (lv_at hl 6 rfl) ?_
              refine lv_iload_n hx hb d_M_quantifyMade_65 rfl (lv_at hl 4 rfl) ?_
              refine lv_if_eq (tgt := 87) hx hb d_M_quantifyMade_66 (by decide) (fun c9 => absurd c9 hc9) (fun _ => ?_)
              refine lv_iload hx hb d_M_quantifyMade_69 (lv_at hl 1 rfl) ?_
              refine lv_if_eq (tgt := 83) hx hb d_M_quantifyMade_71 (by decide) (fun _ => ?_) (fun c9 => absurd hc12 c9)
              exact w9 p e s m args below meth c A H locs ls F hw (lv_sub hl [2, 3, 4, 5, 6] rfl)
            · have k := k.2 hc12
              by_cases hc13 : z_20 = 0
              · have k := k.1 hc13
                obtain ⟨rv, v9, hK, hle_u, w9⟩ := t_M_quantifyMade_J83 l Z u0 x0 x1 x2 x3 x4 z_21 x4 u ih hE127 k
                refine ⟨rv, v9, hK, hle_u, ?_⟩
                intro p e s m args below meth c A H locs ls F hw hl
                obtain ⟨⟨hx, hb, hml, hown, hts⟩, hr, hlocks, hmn⟩ := id F
                refine lv_iload hx hb d_M_quantifyMade_11 (lv_at hl 4 rfl) ?_
                refine lv_sipush (v := 1024) hx hb d_M_quantifyMade_13 (by decide) ?_
                refine lv_icmp_ge (tgt := 127) hx hb d_M_quantifyMade_16 (by decide) (fun c9 => absurd c9 hc1) (fun _ => ?_)
                refine lv_iload_n hx hb d_M_quantifyMade_19 rfl (lv_at hl 1 rfl) ?_
                refine lv_iload_n hx hb d_M_quantifyMade_20 rfl (lv_at hl 3 rfl) ?_
                refine lv_ishr hx hb d_M_quantifyMade_21 ?_
                refine lv_iconst (v := 1) hx hb d_M_quantifyMade_22 (by decide) ?_
                refine lv_iand hx hb d_M_quantifyMade_23 ?_
                refine lv_iconst (v := 1) hx hb d_M_quantifyMade_24 (by decide) ?_
                refine lv_icmp_ne (tgt := 127) hx hb d_M_quantifyMade_25 (by decide) (fun c9 => absurd hc2 c9) (fun _ => ?_)
                refine lv_iload hx hb d_M_quantifyMade_28 (lv_at hl 4 rfl) ?_
                refine lv_iload_n hx hb d_M_quantifyMade_30 rfl (lv_at hl 3 rfl) ?_
                refine lv_ishr hx hb d_M_quantifyMade_31 ?_
                refine lv_iconst (v := 1) hx hb d_M_quantifyMade_32 (by decide) ?_
                refine lv_iand hx hb d_M_quantifyMade_33 ?_
                refine lv_if_ne (tgt := 121) hx hb d_M_quantifyMade_34 (by decide) (fun c9 => absurd hc3 c9) (fun _ => ?_)
                refine lv_aload_n hx hb d_M_quantifyMade_37 rfl (lv_at hl 0 rfl) ?_
                refine xr_get hx hb hts (xmu uws_M) hown hw h4 rfl (by decide) (hts _ (xm w_870)) (fun _ h9 => h9) d_M_quantifyMade_38 ?_
                refine lv_iload hx hb d_M_quantifyMade_41 (lv_at hl 4 rfl) ?_
                refine xr_zald hx hb hw h5 d_M_quantifyMade_43 ?_
                refine lv_istore (lv' := [(5, .int z_18), (0, .ref x0), (1, .int x1), (2, .int x2), (3, .int x3), (4, .int x4)]) hx hb d_M_quantifyMade_44 hl (by decide) rfl (fun ls hl => ?_)
                refine lv_aload_n hx hb d_M_quantifyMade_46 rfl (lv_at hl 1 rfl) ?_
                refine xr_get hx hb hts (xmu uws_M) hown hw h6 rfl (by decide) (hts _ (xm w_870)) (fun _ h9 => h9) d_M_quantifyMade_47 ?_
                refine lv_iload hx hb d_M_quantifyMade_50 (lv_at hl 5 rfl) ?_
                refine lv_iconst (v := 1) hx hb d_M_quantifyMade_52 (by decide) ?_
                refine lv_iload_n hx hb d_M_quantifyMade_53 rfl (lv_at hl 4 rfl) ?_
                refine lv_ishl hx hb d_M_quantifyMade_54 ?_
                refine lv_ior hx hb d_M_quantifyMade_55 ?_
                refine xr_zald hx hb hw h7 d_M_quantifyMade_56 ?_
                refine lv_istore (lv' := [(6, .int z_20), (5, .int z_18), (0, .ref x0), (1, .int x1), (2, .int x2), (3, .int x3), (4, .int x4)]) hx hb d_M_quantifyMade_57 hl (by decide) rfl (fun ls hl => ?_)
                refine lv_aload_n hx hb d_M_quantifyMade_59 rfl (lv_at hl 2 rfl) ?_
                refine xr_get hx hb hts (xmu uws_M) hown hw h8 rfl (by decide) (hts _ (xm w_870)) (fun _ h9 => h9) d_M_quantifyMade_60 ?_
                refine lv_iload hx hb d_M_quantifyMade_63 (lv_at hl 6 rfl) ?_
                refine lv_iload_n hx hb d_M_quantifyMade_65 rfl (lv_at hl 4 rfl) ?_
                refine lv_if_eq (tgt := 87) hx hb d_M_quantifyMade_66 (by decide) (fun c9 => absurd c9 hc9) (fun _ => ?_)
                refine lv_iload hx hb d_M_quantifyMade_69 (lv_at hl 1 rfl) ?_
                refine lv_if_eq (tgt := 83) hx hb d_M_quantifyMade_71 (by decide) (fun c9 => absurd c9 hc12) (fun _ => ?_)
                refine lv_iload hx hb d_M_quantifyMade_74 (lv_at hl 0 rfl) ?_
                refine lv_if_eq (tgt := 83) hx hb d_M_quantifyMade_76 (by decide) (fun _ => ?_) (fun c9 => absurd hc13 c9)
                exact w9 p e s m args below meth c A H locs ls F hw (lv_sub hl [2, 3, 4, 5, 6] rfl)
              · have k := k.2 hc13
                obtain ⟨rv, v9, hK, hle_u, w9⟩ := t_M_quantifyMade_J102 l Z u0 x0 x1 x2 x3 x4 z_21 x4 (1 : Int32) u ih hE127 k
                refine ⟨rv, v9, hK, hle_u, ?_⟩
                intro p e s m args below meth c A H locs ls F hw hl
                obtain ⟨⟨hx, hb, hml, hown, hts⟩, hr, hlocks, hmn⟩ := id F
                refine lv_iload hx hb d_M_quantifyMade_11 (lv_at hl 4 rfl) ?_
                refine lv_sipush (v := 1024) hx hb d_M_quantifyMade_13 (by decide) ?_
                refine lv_icmp_ge (tgt := 127) hx hb d_M_quantifyMade_16 (by decide) (fun c9 => absurd c9 hc1) (fun _ => ?_)
                refine lv_iload_n hx hb d_M_quantifyMade_19 rfl (lv_at hl 1 rfl) ?_
                refine lv_iload_n hx hb d_M_quantifyMade_20 rfl (lv_at hl 3 rfl) ?_
                refine lv_ishr hx hb d_M_quantifyMade_21 ?_
                refine lv_iconst (v := 1) hx hb d_M_quantifyMade_22 (by decide) ?_
                refine lv_iand hx hb d_M_quantifyMade_23 ?_
                refine lv_iconst (v := 1) hx hb d_M_quantifyMade_24 (by decide) ?_
                refine lv_icmp_ne (tgt := 127) hx hb d_M_quantifyMade_25 (by decide) (fun c9 => absurd hc2 c9) (fun _ => ?_)
                refine lv_iload hx hb d_M_quantifyMade_28 (lv_at hl 4 rfl) ?_
                refine lv_iload_n hx hb d_M_quantifyMade_30 rfl (lv_at hl 3 rfl) ?_
                refine lv_ishr hx hb d_M_quantifyMade_31 ?_
                refine lv_iconst (v := 1) hx hb d_M_quantifyMade_32 (by decide) ?_
                refine lv_iand hx hb d_M_quantifyMade_33 ?_
                refine lv_if_ne (tgt := 121) hx hb d_M_quantifyMade_34 (by decide) (fun c9 => absurd hc3 c9) (fun _ => ?_)
                refine lv_aload_n hx hb d_M_quantifyMade_37 rfl (lv_at hl 0 rfl) ?_
                refine xr_get hx hb hts (xmu uws_M) hown hw h4 rfl (by decide) (hts _ (xm w_870)) (fun _ h9 => h9) d_M_quantifyMade_38 ?_
                refine lv_iload hx hb d_M_quantifyMade_41 (lv_at hl 4 rfl) ?_
                refine xr_zald hx hb hw h5 d_M_quantifyMade_43 ?_
                refine lv_istore (lv' := [(5, .int z_18), (0, .ref x0), (1, .int x1), (2, .int x2), (3, .int x3), (4, .int x4)]) hx hb d_M_quantifyMade_44 hl (by decide) rfl (fun ls hl => ?_)
                refine lv_aload_n hx hb d_M_quantifyMade_46 rfl (lv_at hl 1 rfl) ?_
                refine xr_get hx hb hts (xmu uws_M) hown hw h6 rfl (by decide) (hts _ (xm w_870)) (fun _ h9 => h9) d_M_quantifyMade_47 ?_
                refine lv_iload hx hb d_M_quantifyMade_50 (lv_at hl 5 rfl) ?_
                refine lv_iconst (v := 1) hx hb d_M_quantifyMade_52 (by decide) ?_
                refine lv_iload_n hx hb d_M_quantifyMade_53 rfl (lv_at hl 4 rfl) ?_
                refine lv_ishl hx hb d_M_quantifyMade_54 ?_
                refine lv_ior hx hb d_M_quantifyMade_55 ?_
                refine xr_zald hx hb hw h7 d_M_quantifyMade_56 ?_
                refine lv_istore (lv' := [(6, .int z_20), (5, .int z_18), (0, .ref x0), (1, .int x1), (2, .int x2), (3, .int x3), (4, .int x4)]) hx hb d_M_quantifyMade_57 hl (by decide) rfl (fun ls hl => ?_)
                refine lv_aload_n hx hb d_M_quantifyMade_59 rfl (lv_at hl 2 rfl) ?_
                refine xr_get hx hb hts (xmu uws_M) hown hw h8 rfl (by decide) (hts _ (xm w_870)) (fun _ h9 => h9) d_M_quantifyMade_60 ?_
                refine lv_iload hx hb d_M_quantifyMade_63 (lv_at hl 6 rfl) ?_
                refine lv_iload_n hx hb d_M_quantifyMade_65 rfl (lv_at hl 4 rfl) ?_
                refine lv_if_eq (tgt := 87) hx hb d_M_quantifyMade_66 (by decide) (fun c9 => absurd c9 hc9) (fun _ => ?_)
                refine lv_iload hx hb d_M_quantifyMade_69 (lv_at hl 1 rfl) ?_
                refine lv_if_eq (tgt := 83) hx hb d_M_quantifyMade_71 (by decide) (fun c9 => absurd c9 hc12) (fun _ => ?_)
                refine lv_iload hx hb d_M_quantifyMade_74 (lv_at hl 0 rfl) ?_
                refine lv_if_eq (tgt := 83) hx hb d_M_quantifyMade_76 (by decide) (fun c9 => absurd c9 hc13) (fun _ => ?_)
                refine lv_iconst (v := 1) hx hb d_M_quantifyMade_79 (by decide) ?_
                refine lv_goto (tgt := 102) hx hb d_M_quantifyMade_80 (by decide) ?_
                exact w9 p e s m args below meth c A H locs ls F hw (lv_sub hl [2, 3, 4, 5, 6] rfl)
        · have k := k.1 hc3
          obtain ⟨rv, v9, hK, hle_u, w9⟩ := t_M_quantifyMade_J121 l Z u0 x0 x1 x2 x3 x4 u ih hE127 k
          refine ⟨rv, v9, hK, hle_u, ?_⟩
          intro p e s m args below meth c A H locs ls F hw hl
          obtain ⟨⟨hx, hb, hml, hown, hts⟩, hr, hlocks, hmn⟩ := id F
          refine lv_iload hx hb d_M_quantifyMade_11 (lv_at hl 4 rfl) ?_
          refine lv_sipush (v := 1024) hx hb d_M_quantifyMade_13 (by decide) ?_
          refine lv_icmp_ge (tgt := 127) hx hb d_M_quantifyMade_16 (by decide) (fun c9 => absurd c9 hc1) (fun _ => ?_)
          refine lv_iload_n hx hb d_M_quantifyMade_19 rfl (lv_at hl 1 rfl) ?_
          refine lv_iload_n hx hb d_M_quantifyMade_20 rfl (lv_at hl 3 rfl) ?_
          refine lv_ishr hx hb d_M_quantifyMade_21 ?_
          refine lv_iconst (v := 1) hx hb d_M_quantifyMade_22 (by decide) ?_
          refine lv_iand hx hb d_M_quantifyMade_23 ?_
          refine lv_iconst (v := 1) hx hb d_M_quantifyMade_24 (by decide) ?_
          refine lv_icmp_ne (tgt := 127) hx hb d_M_quantifyMade_25 (by decide) (fun c9 => absurd hc2 c9) (fun _ => ?_)
          refine lv_iload hx hb d_M_quantifyMade_28 (lv_at hl 4 rfl) ?_
          refine lv_iload_n hx hb d_M_quantifyMade_30 rfl (lv_at hl 3 rfl) ?_
          refine lv_ishr hx hb d_M_quantifyMade_31 ?_
          refine lv_iconst (v := 1) hx hb d_M_quantifyMade_32 (by decide) ?_
          refine lv_iand hx hb d_M_quantifyMade_33 ?_
          refine lv_if_ne (tgt := 121) hx hb d_M_quantifyMade_34 (by decide) (fun _ => ?_) (fun c9 => absurd c9 hc3)
          exact w9 p e s m args below meth c A H locs ls F hw (lv_sub hl [0, 1, 2, 3, 4] rfl)
      · have k := k.1 hc2
        obtain ⟨rv, v9, hK, hle_u, w9⟩ := hE127 u k
        refine ⟨rv, v9, hK, hle_u, ?_⟩
        intro p e s m args below meth c A H locs ls F hw hl
        obtain ⟨⟨hx, hb, hml, hown, hts⟩, hr, hlocks, hmn⟩ := id F
        refine lv_iload hx hb d_M_quantifyMade_11 (lv_at hl 4 rfl) ?_
        refine lv_sipush (v := 1024) hx hb d_M_quantifyMade_13 (by decide) ?_
        refine lv_icmp_ge (tgt := 127) hx hb d_M_quantifyMade_16 (by decide) (fun c9 => absurd c9 hc1) (fun _ => ?_)
        refine lv_iload_n hx hb d_M_quantifyMade_19 rfl (lv_at hl 1 rfl) ?_
        refine lv_iload_n hx hb d_M_quantifyMade_20 rfl (lv_at hl 3 rfl) ?_
        refine lv_ishr hx hb d_M_quantifyMade_21 ?_
        refine lv_iconst (v := 1) hx hb d_M_quantifyMade_22 (by decide) ?_
        refine lv_iand hx hb d_M_quantifyMade_23 ?_
        refine lv_iconst (v := 1) hx hb d_M_quantifyMade_24 (by decide) ?_
        refine lv_icmp_ne (tgt := 127) hx hb d_M_quantifyMade_25 (by decide) (fun _ => ?_) (fun c9 => absurd c9 hc2)
        exact w9 p e s m args below meth c A H locs ls F hw (lv_sub hl [0, 1, 2, 3] rfl)
set_option maxRecDepth 100000 in
set_option maxHeartbeats 4000000 in
theorem t_M_quantifyMade_J127 (l : Launch) (Z : XZ) (u0 : PS) {Kv : Option Value → PS → Prop} {R : Int32 → PS → Prop} {E133 : PS → Prop} (x0 : Nat) (x1 : Int32) (x2 : Int32) (x3 : Int32) (u : PS) (hR : ∀ (y3 : Int32) (v : PS), R y3 v → XN l Z i_M_quantifyMade u0 Kv v 2 [(0, .ref x0), (1, .int x1), (2, .int x2), (3, .int y3)] []) (hE133 : ∀ (v : PS), E133 v → XN l Z i_M_quantifyMade u0 Kv v 133 [] []) (k : (p_M_quantifyMade_J127 R E133 x0 x1 x2 x3 u)) : XN l Z i_M_quantifyMade u0 Kv u 127 [(0, .ref x0), (1, .int x1), (2, .int x2), (3, .int x3)] [] := by
  unfold p_M_quantifyMade_J127 at k
  obtain ⟨y1, ey1⟩ : ∃ y9 : Int32, y9 = x3 + 1 := ⟨_, rfl⟩
  have k := k y1 ey1
  obtain ⟨rv, v9, hK, hle_u, w9⟩ := hR y1 u k
  refine ⟨rv, v9, hK, hle_u, ?_⟩
  intro p e s m args below meth c A H locs ls F hw hl
  obtain ⟨⟨hx, hb, hml, hown, hts⟩, hr, hlocks, hmn⟩ := id F
  refine lv_iinc (v := y1) (lv' := [(3, .int y1), (0, .ref x0), (1, .int x1), (2, .int x2)]) hx hb d_M_quantifyMade_127 hl (k := 3) rfl (by subst ey1; rfl) (by decide) rfl (fun ls hl => ?_)
  refine lv_goto (tgt := 2) hx hb d_M_quantifyMade_130 (by decide) ?_
  exact w9 p e s m args below meth c A H locs ls F hw (lv_sub hl [1, 2, 3, 0] rfl)
set_option maxRecDepth 100000 in
set_option maxHeartbeats 4000000 in
theorem t_M_quantifyMade_L2 (l : Launch) (Z : XZ) (u0 : PS) {Kv : Option Value → PS → Prop} {E133 : PS → Prop} (x0 : Nat) (x1 : Int32) (x2 : Int32) (hE133 : ∀ (v : PS), E133 v → XN l Z i_M_quantifyMade u0 Kv v 133 [] []) : ∀ (n : Nat) (x3 : Int32) (u : PS), p_M_quantifyMade_L2 x0 x1 x2 E133 n x3 u → XN l Z i_M_quantifyMade u0 Kv u 2 [(0, .ref x0), (1, .int x1), (2, .int x2), (3, .int x3)] [] := by
  intro n
  induction n with
  | zero => intro x3 u k; exact False.elim k
  | succ n ih =>
    intro x3 u k
    rw [p_M_quantifyMade_L2] at k
    by_cases hc1 : 10 ≤ x3
    · have k := k.1 hc1
      obtain ⟨rv, v9, hK, hle_u, w9⟩ := hE133 u k
      refine ⟨rv, v9, hK, hle_u, ?_⟩
      intro p e s m args below meth c A H locs ls F hw hl
      obtain ⟨⟨hx, hb, hml, hown, hts⟩, hr, hlocks, hmn⟩ := id F
      refine lv_iload_n hx hb d_M_quantifyMade_2 rfl (lv_at hl 3 rfl) ?_
      refine lv_bipush (v := 10) hx hb d_M_quantifyMade_3 (by decide) ?_
      refine lv_icmp_ge (tgt := 133) hx hb d_M_quantifyMade_5 (by decide) (fun _ => ?_) (fun c9 => absurd hc1 c9)
      exact w9 p e s m args below meth c A H locs ls F hw (lv_sub hl [] rfl)
    · have k := k.2 hc1
      obtain ⟨n2, k⟩ := k
      have hx4 : ∀ (v3 : PS), (p_M_quantifyMade_J127 (p_M_quantifyMade_L2 x0 x1 x2 E133 n) E133 x0 x1 x2 x3 v3) → XN l Z i_M_quantifyMade u0 Kv v3 127 [(0, .ref x0), (1, .int x1), (2, .int x2), (3, .int x3)] [] := by
        intro v3 k
        obtain ⟨rv, v9, hK, hle_v3, w9⟩ := t_M_quantifyMade_J127 l Z u0 x0 x1 x2 x3 v3 ih hE133 k
        refine ⟨rv, v9, hK, hle_v3, ?_⟩
        intro p e s m args below meth c A H locs ls F hw hl
        obtain ⟨⟨hx, hb, hml, hown, hts⟩, hr, hlocks, hmn⟩ := id F
        exact w9 p e s m args below meth c A H locs ls F hw (lv_sub hl [0, 1, 2, 3] rfl)
      obtain ⟨rv, v9, hK, hle_u, w9⟩ := t_M_quantifyMade_L11 l Z u0 x0 x1 x2 x3 hx4 n2 (0 : Int32) u k
      refine ⟨rv, v9, hK, hle_u, ?_⟩
      intro p e s m args below meth c A H locs ls F hw hl
      obtain ⟨⟨hx, hb, hml, hown, hts⟩, hr, hlocks, hmn⟩ := id F
      refine lv_iload_n hx hb d_M_quantifyMade_2 rfl (lv_at hl 3 rfl) ?_
      refine lv_bipush (v := 10) hx hb d_M_quantifyMade_3 (by decide) ?_
      refine lv_icmp_ge (tgt := 133) hx hb d_M_quantifyMade_5 (by decide) (fun c9 => absurd c9 hc1) (fun _ => ?_)
      refine lv_iconst (v := 0) hx hb d_M_quantifyMade_8 (by decide) ?_
      refine lv_istore (lv' := [(4, .int 0), (0, .ref x0), (1, .int x1), (2, .int x2), (3, .int x3)]) hx hb d_M_quantifyMade_9 hl (by decide) rfl (fun ls hl => ?_)
      exact w9 p e s m args below meth c A H locs ls F hw (lv_sub hl [1, 2, 3, 4, 0] rfl)
set_option maxRecDepth 100000 in
set_option maxHeartbeats 4000000 in
theorem c_M_quantifyMade (l : Launch) (Z : XZ) (x0 : Nat) (x1 : Int32) (x2 : Int32) (u : PS) (K : PS → Prop) (k : p_M_quantifyMade x0 x1 x2 u K) : ∃ (rv : Option Value) (u1 : PS), (kV K) rv u1 ∧ XMet l Z i_M_quantifyMade [.ref x0, .int x1, .int x2] u rv u1 := by
  refine x_met (by decide) rfl (Nat.le_of_ble_eq_true rfl) ?_
  show XN l Z i_M_quantifyMade u (kV K) u 0 [(0, .ref x0), (1, .int x1), (2, .int x2)] []
  unfold p_M_quantifyMade at k
  obtain ⟨n1, k⟩ := k
  have hx3 : ∀ (v2 : PS), (K v2) → XN l Z i_M_quantifyMade u (kV K) v2 133 [] [] := by
    intro v2 k
    have hle_v2 : x_le v2 v2 := x_le.rf v2
    refine ⟨none, v2, ⟨rfl, k⟩, hle_v2, ?_⟩
    intro p e s m args below meth c A H locs ls F hw hl
    obtain ⟨⟨hx, hb, hml, hown, hts⟩, hr, hlocks, hmn⟩ := id F
    exact xr_vret F rfl hw d_M_quantifyMade_133
  obtain ⟨rv, v9, hK, hle_u, w9⟩ := t_M_quantifyMade_L2 l Z u x0 x1 x2 hx3 n1 (0 : Int32) u k
  refine ⟨rv, v9, hK, hle_u, ?_⟩
  intro p e s m args below meth c A H locs ls F hw hl
  obtain ⟨⟨hx, hb, hml, hown, hts⟩, hr, hlocks, hmn⟩ := id F
  refine lv_iconst (v := 0) hx hb d_M_quantifyMade_0 (by decide) ?_
  refine lv_istore_n (lv' := [(3, .int 0), (0, .ref x0), (1, .int x1), (2, .int x2)]) hx hb d_M_quantifyMade_1 rfl hl (by decide) rfl (fun ls hl => ?_)
  exact w9 p e s m args below meth c A H locs ls F hw (lv_sub hl [1, 2, 3, 0] rfl)
