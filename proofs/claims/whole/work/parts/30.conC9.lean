set_option maxRecDepth 100000 in
set_option maxHeartbeats 4000000 in
theorem t_D_sink_J54 (l : Launch) (Z : XZ) (u0 : PS) {Kv : Option Value → PS → Prop} {R : Int32 → Int32 → Int32 → PS → Prop} {E60 : Int32 → Int32 → PS → Prop} (x0 : Nat) (x1 : Int32) (x2 : Int32) (x3 : Int32) (x4 : Int32) (x5 : Int32) (u : PS) (hR : ∀ (y3 : Int32) (y4 : Int32) (y5 : Int32) (v : PS), R y3 y4 y5 v → XN l Z i_D_sink u0 Kv v 11 [(0, .ref x0), (1, .int x1), (2, .int x2), (3, .int y3), (4, .int y4), (5, .int y5)] []) (hE60 : ∀ (y3 : Int32) (y4 : Int32) (v : PS), E60 y3 y4 v → XN l Z i_D_sink u0 Kv v 60 [(0, .ref x0), (1, .int x1), (2, .int x2), (3, .int y3), (4, .int y4)] []) (k : (p_D_sink_J54 R E60 x0 x1 x2 x3 x4 x5 u)) : XN l Z i_D_sink u0 Kv u 54 [(0, .ref x0), (1, .int x1), (2, .int x2), (3, .int x3), (4, .int x4), (5, .int x5)] [] := by
  unfold p_D_sink_J54 at k
  obtain ⟨y1, ey1⟩ : ∃ y9 : Int32, y9 = x5 + 1 := ⟨_, rfl⟩
  have k := k y1 ey1
  obtain ⟨rv, v9, hK, hle_u, w9⟩ := hR x3 x4 y1 u k
  refine ⟨rv, v9, hK, hle_u, ?_⟩
  intro p e s m args below meth c A H locs ls F hw hl
  obtain ⟨⟨hx, hb, hml, hown, hts⟩, hr, hlocks, hmn⟩ := id F
  refine lv_iinc (v := y1) (lv' := [(5, .int y1), (0, .ref x0), (1, .int x1), (2, .int x2), (3, .int x3), (4, .int x4)]) hx hb d_D_sink_54 hl (k := 5) rfl (by subst ey1; rfl) (by decide) rfl (fun ls hl => ?_)
  refine lv_goto (tgt := 11) hx hb d_D_sink_57 (by decide) ?_
  exact w9 p e s m args below meth c A H locs ls F hw (lv_sub hl [1, 2, 3, 4, 5, 0] rfl)
set_option maxRecDepth 100000 in
set_option maxHeartbeats 4000000 in
theorem t_D_sink_L11 (l : Launch) (Z : XZ) (u0 : PS) {Kv : Option Value → PS → Prop} {E60 : Int32 → Int32 → PS → Prop} (x0 : Nat) (x1 : Int32) (x2 : Int32) (hE60 : ∀ (y3 : Int32) (y4 : Int32) (v : PS), E60 y3 y4 v → XN l Z i_D_sink u0 Kv v 60 [(0, .ref x0), (1, .int x1), (2, .int x2), (3, .int y3), (4, .int y4)] []) : ∀ (n : Nat) (x3 : Int32) (x4 : Int32) (x5 : Int32) (u : PS), p_D_sink_L11 x0 x1 x2 E60 n x3 x4 x5 u → XN l Z i_D_sink u0 Kv u 11 [(0, .ref x0), (1, .int x1), (2, .int x2), (3, .int x3), (4, .int x4), (5, .int x5)] [] := by
  intro n
  induction n with
  | zero => intro x3 x4 x5 u k; exact False.elim k
  | succ n ih =>
    intro x3 x4 x5 u k
    rw [p_D_sink_L11] at k
    by_cases hc1 : 9 ≤ x5
    · have k := k.1 hc1
      obtain ⟨rv, v9, hK, hle_u, w9⟩ := hE60 x3 x4 u k
      refine ⟨rv, v9, hK, hle_u, ?_⟩
      intro p e s m args below meth c A H locs ls F hw hl
      obtain ⟨⟨hx, hb, hml, hown, hts⟩, hr, hlocks, hmn⟩ := id F
      refine lv_iload hx hb d_D_sink_11 (lv_at hl 5 rfl) ?_
      refine lv_bipush (v := 9) hx hb d_D_sink_13 (by decide) ?_
      refine lv_icmp_ge (tgt := 60) hx hb d_D_sink_15 (by decide) (fun _ => ?_) (fun c9 => absurd hc1 c9)
      exact w9 p e s m args below meth c A H locs ls F hw (lv_sub hl [0, 1, 2, 3, 4] rfl)
    · have k := k.2 hc1
      obtain ⟨z_50, h2, k⟩ := k
      obtain ⟨z_51, h3, k⟩ := k
      by_cases hc4 : ((x2 >>> (z_51 &&& 31)) &&& (1 : Int32)) = 1
      · have k := k.2 hc4
        obtain ⟨z_52, h5, k⟩ := k
        obtain ⟨h7, k⟩ := k
        obtain ⟨_, u_53, ⟨r_54, rfl, k⟩, hM6⟩ := c_N_asksFor l Z z_52 z_51 u _ k
        obtain ⟨h8, k⟩ := k
        obtain ⟨y9, ey9⟩ : ∃ y9 : Int32, y9 = (x3 + (r_54 / (2 : Int32))) := ⟨_, rfl⟩
        have k := k y9 ey9
        obtain ⟨y10, ey10⟩ : ∃ y9 : Int32, y9 = x4 + 1 := ⟨_, rfl⟩
        have k := k y10 ey10
        obtain ⟨rv, v9, hK, hle_u_53, w9⟩ := t_D_sink_J54 l Z u0 x0 x1 x2 y9 y10 x5 u_53 ih hE60 k
        have hle_u : x_le u v9 := (hM6.1).tr hle_u_53
        refine ⟨rv, v9, hK, hle_u, ?_⟩
        intro p e s m args below meth c A H locs ls F hw hl
        obtain ⟨⟨hx, hb, hml, hown, hts⟩, hr, hlocks, hmn⟩ := id F
        refine lv_iload hx hb d_D_sink_11 (lv_at hl 5 rfl) ?_
        refine lv_bipush (v := 9) hx hb d_D_sink_13 (by decide) ?_
        refine lv_icmp_ge (tgt := 60) hx hb d_D_sink_15 (by decide) (fun c9 => absurd c9 hc1) (fun _ => ?_)
        refine lv_aload_n hx hb d_D_sink_18 rfl (lv_at hl 0 rfl) ?_
        refine xr_get hx hb hts (xmu uws_D) hown hw h2 rfl (by decide) (hts _ (xm w_195)) (fun _ h9 => h9) d_D_sink_19 ?_
        refine lv_iload hx hb d_D_sink_22 (lv_at hl 5 rfl) ?_
        refine xr_iald hx hb hw h3 d_D_sink_24 ?_
        refine lv_istore (lv' := [(6, .int z_51), (0, .ref x0), (1, .int x1), (2, .int x2), (3, .int x3), (4, .int x4), (5, .int x5)]) hx hb d_D_sink_25 hl (by decide) rfl (fun ls hl => ?_)
        refine lv_iload_n hx hb d_D_sink_27 rfl (lv_at hl 3 rfl) ?_
        refine lv_iload hx hb d_D_sink_28 (lv_at hl 0 rfl) ?_
        refine lv_ishr hx hb d_D_sink_30 ?_
        refine lv_iconst (v := 1) hx hb d_D_sink_31 (by decide) ?_
        refine lv_iand hx hb d_D_sink_32 ?_
        refine lv_iconst (v := 1) hx hb d_D_sink_33 (by decide) ?_
        refine lv_icmp_ne (tgt := 54) hx hb d_D_sink_34 (by decide) (fun c9 => absurd hc4 c9) (fun _ => ?_)
        refine lv_iload_n hx hb d_D_sink_37 rfl (lv_at hl 4 rfl) ?_
        refine lv_aload_n hx hb d_D_sink_38 rfl (lv_at hl 1 rfl) ?_
        refine xr_get hx hb hts (xmu uws_D) hown hw h5 rfl (by decide) (hts _ (xm w_192)) (fun _ h9 => h9) d_D_sink_39 ?_
        refine lv_iload hx hb d_D_sink_42 (lv_at hl 0 rfl) ?_
        refine xr_cV (As := [.int z_51]) (rest := [.int x3]) ⟨hx, hb, hml, hown, hts⟩ hw hM6 hle_u_53 (fun _ _ => ⟨callB_of 1 hts (xgood w_395) rfl rfl rfl (hts _ (xm w_4)) (hts _ (xm w_392)) ⟨by decide, by decide, by decide +kernel⟩ ⟨Nat.le_of_ble_eq_true rfl, Nat.le_of_ble_eq_true rfl⟩, (hts _ (xm w_393)), (hts _ (xm w_394))⟩) (qc := (R_N, F_N, 13)) rfl rfl h7 rfl hl.1 rfl (Nat.le_of_ble_eq_true rfl) d_D_sink_44 (fun H locs hw => ?_)
        refine W.eq (g2 := F0 m 47 ls [.int r_54, .int x3]) rfl ?_
        refine lv_iconst (v := 2) hx hb d_D_sink_47 (by decide) ?_
        refine lv_idiv hx hb d_D_sink_48 h8 ?_
        refine lv_iadd hx hb d_D_sink_49 ?_
        refine lv_istore_n (lv' := [(3, .int y9), (6, .int z_51), (0, .ref x0), (1, .int x1), (2, .int x2), (4, .int x4), (5, .int x5)]) hx hb d_D_sink_50 rfl hl (by decide) (by subst ey9; rfl) (fun ls hl => ?_)
        refine lv_iinc (v := y10) (lv' := [(4, .int y10), (3, .int y9), (6, .int z_51), (0, .ref x0), (1, .int x1), (2, .int x2), (5, .int x5)]) hx hb d_D_sink_51 hl (k := 5) rfl (by subst ey10; rfl) (by decide) rfl (fun ls hl => ?_)
        exact w9 p e s m args below meth c A H locs ls F hw (lv_sub hl [3, 4, 5, 1, 0, 6] rfl)
      · have k := k.1 hc4
        obtain ⟨rv, v9, hK, hle_u, w9⟩ := t_D_sink_J54 l Z u0 x0 x1 x2 x3 x4 x5 u ih hE60 k
        refine ⟨rv, v9, hK, hle_u, ?_⟩
        intro p e s m args below meth c A H locs ls F hw hl
        obtain ⟨⟨hx, hb, hml, hown, hts⟩, hr, hlocks, hmn⟩ := id F
        refine lv_iload hx hb d_D_sink_11 (lv_at hl 5 rfl) ?_
        refine lv_bipush (v := 9) hx hb d_D_sink_13 (by decide) ?_
        refine lv_icmp_ge (tgt := 60) hx hb d_D_sink_15 (by decide) (fun c9 => absurd c9 hc1) (fun _ => ?_)
        refine lv_aload_n hx hb d_D_sink_18 rfl (lv_at hl 0 rfl) ?_
        refine xr_get hx hb hts (xmu uws_D) hown hw h2 rfl (by decide) (hts _ (xm w_195)) (fun _ h9 => h9) d_D_sink_19 ?_
        refine lv_iload hx hb d_D_sink_22 (lv_at hl 5 rfl) ?_
        refine xr_iald hx hb hw h3 d_D_sink_24 ?_
        refine lv_istore (lv' := [(6, .int z_51), (0, .ref x0), (1, .int x1), (2, .int x2), (3, .int x3), (4, .int x4), (5, .int x5)]) hx hb d_D_sink_25 hl (by decide) rfl (fun ls hl => ?_)
        refine lv_iload_n hx hb d_D_sink_27 rfl (lv_at hl 3 rfl) ?_
        refine lv_iload hx hb d_D_sink_28 (lv_at hl 0 rfl) ?_
        refine lv_ishr hx hb d_D_sink_30 ?_
        refine lv_iconst (v := 1) hx hb d_D_sink_31 (by decide) ?_
        refine lv_iand hx hb d_D_sink_32 ?_
        refine lv_iconst (v := 1) hx hb d_D_sink_33 (by decide) ?_
        refine lv_icmp_ne (tgt := 54) hx hb d_D_sink_34 (by decide) (fun _ => ?_) (fun c9 => absurd c9 hc4)
        exact w9 p e s m args below meth c A H locs ls F hw (lv_sub hl [1, 2, 3, 4, 5, 6] rfl)
set_option maxRecDepth 100000 in
set_option maxHeartbeats 4000000 in
theorem t_D_sink_J222 (l : Launch) (Z : XZ) (u0 : PS) {Kv : Option Value → PS → Prop} {R : Int32 → Int32 → Int32 → Int32 → PS → Prop} {E228 : PS → Prop} (x0 : Nat) (x1 : Int32) (x2 : Int32) (x3 : Int32) (x4 : Int32) (x5 : Int32) (x6 : Int32) (u : PS) (hR : ∀ (y3 : Int32) (y4 : Int32) (y5 : Int32) (y6 : Int32) (v : PS), R y3 y4 y5 y6 v → XN l Z i_D_sink u0 Kv v 117 [(0, .ref x0), (1, .int x1), (2, .int x2), (3, .int y3), (4, .int y4), (5, .int y5), (6, .int y6)] []) (hE228 : ∀ (v : PS), E228 v → XN l Z i_D_sink u0 Kv v 228 [(0, .ref x0)] []) (k : (p_D_sink_J222 R E228 x0 x1 x2 x3 x4 x5 x6 u)) : XN l Z i_D_sink u0 Kv u 222 [(0, .ref x0), (1, .int x1), (2, .int x2), (3, .int x3), (4, .int x4), (5, .int x5), (6, .int x6)] [] := by
  unfold p_D_sink_J222 at k
  obtain ⟨y1, ey1⟩ : ∃ y9 : Int32, y9 = x6 + 1 := ⟨_, rfl⟩
  have k := k y1 ey1
  obtain ⟨rv, v9, hK, hle_u, w9⟩ := hR x3 x4 x5 y1 u k
  refine ⟨rv, v9, hK, hle_u, ?_⟩
  intro p e s m args below meth c A H locs ls F hw hl
  obtain ⟨⟨hx, hb, hml, hown, hts⟩, hr, hlocks, hmn⟩ := id F
  refine lv_iinc (v := y1) (lv' := [(6, .int y1), (0, .ref x0), (1, .int x1), (2, .int x2), (3, .int x3), (4, .int x4), (5, .int x5)]) hx hb d_D_sink_222 hl (k := 6) rfl (by subst ey1; rfl) (by decide) rfl (fun ls hl => ?_)
  refine lv_goto (tgt := 117) hx hb d_D_sink_225 (by decide) ?_
  exact w9 p e s m args below meth c A H locs ls F hw (lv_sub hl [1, 2, 3, 4, 5, 6, 0] rfl)
set_option maxRecDepth 100000 in
set_option maxHeartbeats 4000000 in
theorem t_D_sink_L117 (l : Launch) (Z : XZ) (u0 : PS) {Kv : Option Value → PS → Prop} {E228 : PS → Prop} (x0 : Nat) (x1 : Int32) (x2 : Int32) (hE228 : ∀ (v : PS), E228 v → XN l Z i_D_sink u0 Kv v 228 [(0, .ref x0)] []) : ∀ (n : Nat) (x3 : Int32) (x4 : Int32) (x5 : Int32) (x6 : Int32) (u : PS), p_D_sink_L117 x0 x1 x2 E228 n x3 x4 x5 x6 u → XN l Z i_D_sink u0 Kv u 117 [(0, .ref x0), (1, .int x1), (2, .int x2), (3, .int x3), (4, .int x4), (5, .int x5), (6, .int x6)] [] := by
  intro n
  induction n with
  | zero => intro x3 x4 x5 x6 u k; exact False.elim k
  | succ n ih =>
    intro x3 x4 x5 x6 u k
    rw [p_D_sink_L117] at k
    by_cases hc1 : x4 ≤ 0
    · have k := k.1 hc1
      obtain ⟨rv, v9, hK, hle_u, w9⟩ := hE228 u k
      refine ⟨rv, v9, hK, hle_u, ?_⟩
      intro p e s m args below meth c A H locs ls F hw hl
      obtain ⟨⟨hx, hb, hml, hown, hts⟩, hr, hlocks, hmn⟩ := id F
      refine lv_iload hx hb d_D_sink_117 (lv_at hl 4 rfl) ?_
      refine lv_if_le (tgt := 228) hx hb d_D_sink_119 (by decide) (fun _ => ?_) (fun c9 => absurd hc1 c9)
      exact w9 p e s m args below meth c A H locs ls F hw (lv_sub hl [0] rfl)
    · have k := k.2 hc1
      by_cases hc2 : 9 ≤ x6
      · have k := k.1 hc2
        obtain ⟨rv, v9, hK, hle_u, w9⟩ := hE228 u k
        refine ⟨rv, v9, hK, hle_u, ?_⟩
        intro p e s m args below meth c A H locs ls F hw hl
        obtain ⟨⟨hx, hb, hml, hown, hts⟩, hr, hlocks, hmn⟩ := id F
        refine lv_iload hx hb d_D_sink_117 (lv_at hl 4 rfl) ?_
        refine lv_if_le (tgt := 228) hx hb d_D_sink_119 (by decide) (fun c9 => absurd c9 hc1) (fun _ => ?_)
        refine lv_iload hx hb d_D_sink_122 (lv_at hl 6 rfl) ?_
        refine lv_bipush (v := 9) hx hb d_D_sink_124 (by decide) ?_
        refine lv_icmp_ge (tgt := 228) hx hb d_D_sink_126 (by decide) (fun _ => ?_) (fun c9 => absurd hc2 c9)
        exact w9 p e s m args below meth c A H locs ls F hw (lv_sub hl [0] rfl)
      · have k := k.2 hc2
        obtain ⟨z_67, h3, k⟩ := k
        obtain ⟨h5, k⟩ := k
        obtain ⟨_, u_68, ⟨r_69, rfl, k⟩, hM4⟩ := c_T_asks l Z z_67 u _ k
        obtain ⟨z_70, h6, k⟩ := k
        by_cases hc7 : z_70 ≤ ((x5 - x3) - r_69)
        · have k := k.1 hc7
          obtain ⟨rv, v9, hK, hle_u_68, w9⟩ := hE228 u_68 k
          have hle_u : x_le u v9 := (hM4.1).tr hle_u_68
          refine ⟨rv, v9, hK, hle_u, ?_⟩
          intro p e s m args below meth c A H locs ls F hw hl
          obtain ⟨⟨hx, hb, hml, hown, hts⟩, hr, hlocks, hmn⟩ := id F
          refine lv_iload hx hb d_D_sink_117 (lv_at hl 4 rfl) ?_
          refine lv_if_le (tgt := 228) hx hb d_D_sink_119 (by decide) (fun c9 => absurd c9 hc1) (fun _ => ?_)
          refine lv_iload hx hb d_D_sink_122 (lv_at hl 6 rfl) ?_
          refine lv_bipush (v := 9) hx hb d_D_sink_124 (by decide) ?_
          refine lv_icmp_ge (tgt := 228) hx hb d_D_sink_126 (by decide) (fun c9 => absurd c9 hc2) (fun _ => ?_)
          refine lv_iload hx hb d_D_sink_129 (lv_at hl 5 rfl) ?_
          refine lv_iload_n hx hb d_D_sink_131 rfl (lv_at hl 3 rfl) ?_
          refine lv_isub hx hb d_D_sink_132 ?_
          refine lv_aload_n hx hb d_D_sink_133 rfl (lv_at hl 0 rfl) ?_
          refine xr_get hx hb hts (xmu uws_D) hown hw h3 rfl (by decide) (hts _ (xm w_194)) (fun _ h9 => h9) d_D_sink_134 ?_
          refine xr_cV (As := []) (rest := [.int (x5 - x3)]) ⟨hx, hb, hml, hown, hts⟩ hw hM4 hle_u_68 (fun _ _ => ⟨callB_of 0 hts (xgood w_439) rfl rfl rfl (hts _ (xm w_7)) (hts _ (xm w_436)) ⟨by decide, by decide, by decide +kernel⟩ ⟨Nat.le_of_ble_eq_true rfl, Nat.le_of_ble_eq_true rfl⟩, (hts _ (xm w_437)), (hts _ (xm w_438))⟩) (qc := (R_T, F_T, 10)) rfl rfl h5 rfl hl.1 rfl (Nat.le_of_ble_eq_true rfl) d_D_sink_137 (fun H locs hw => ?_)
          refine W.eq (g2 := F0 m 140 ls [.int r_69, .int (x5 - x3)]) rfl ?_
          refine lv_isub hx hb d_D_sink_140 ?_
          refine lv_aload_n hx hb d_D_sink_141 rfl (lv_at hl 0 rfl) ?_
          refine xr_get hx hb hts (xmu uws_D) hown hw h6 rfl (by decide) (hts _ (xm w_203)) (fun _ h9 => h9) d_D_sink_142 ?_
          refine lv_icmp_ge (tgt := 228) hx hb d_D_sink_145 (by decide) (fun _ => ?_) (fun c9 => absurd hc7 c9)
          exact w9 p e s m args below meth c A H locs ls F hw (lv_sub hl [0] rfl)
        · have k := k.2 hc7
          obtain ⟨z_71, h8, k⟩ := k
          obtain ⟨z_72, h9, k⟩ := k
          by_cases hc10 : ((x2 >>> (z_72 &&& 31)) &&& (1 : Int32)) = 1
          · have k := k.2 hc10
            obtain ⟨z_73, h11, k⟩ := k
            obtain ⟨h13, k⟩ := k
            obtain ⟨_, u_74, ⟨r_75, rfl, k⟩, hM12⟩ := c_T_sinkBelow l Z z_73 x1 z_72 u_68 _ k
            obtain ⟨y14, ey14⟩ : ∃ y9 : Int32, y9 = (x5 + r_75) := ⟨_, rfl⟩
            have k := k y14 ey14
            obtain ⟨z_76, h15, k⟩ := k
            obtain ⟨h17, k⟩ := k
            obtain ⟨_, u_77, ⟨r_78, rfl, k⟩, hM16⟩ := c_N_asksFor l Z z_76 z_72 u_74 _ k
            obtain ⟨h18, k⟩ := k
            obtain ⟨y19, ey19⟩ : ∃ y9 : Int32, y9 = (x3 - (r_78 / (2 : Int32))) := ⟨_, rfl⟩
            have k := k y19 ey19
            obtain ⟨y20, ey20⟩ : ∃ y9 : Int32, y9 = x4 + (-1) := ⟨_, rfl⟩
            have k := k y20 ey20
            obtain ⟨z_79, h21, k⟩ := k
            by_cases hc22 : z_79 ≤ y14
            · have k := k.1 hc22
              obtain ⟨rv, v9, hK, hle_u_77, w9⟩ := t_D_sink_J222 l Z u0 x0 x1 x2 y19 y20 y14 x6 u_77 ih hE228 k
              have hle_u_74 : x_le u_74 v9 := (hM16.1).tr hle_u_77
              have hle_u_68 : x_le u_68 v9 := (hM12.1).tr hle_u_74
              have hle_u : x_le u v9 := (hM4.1).tr hle_u_68
              refine ⟨rv, v9, hK, hle_u, ?_⟩
              intro p e s m args below meth c A H locs ls F hw hl
              obtain ⟨⟨hx, hb, hml, hown, hts⟩, hr, hlocks, hmn⟩ := id F
              refine lv_iload hx hb d_D_sink_117 (lv_at hl 4 rfl) ?_
              refine lv_if_le (tgt := 228) hx hb d_D_sink_119 (by decide) (fun c9 => absurd c9 hc1) (fun _ => ?_)
              refine lv_iload hx hb d_D_sink_122 (lv_at hl 6 rfl) ?_
              refine lv_bipush (v := 9) hx hb d_D_sink_124 (by decide) ?_
              refine lv_icmp_ge (tgt := 228) hx hb d_D_sink_126 (by decide) (fun c9 => absurd c9 hc2) (fun _ => ?_)
              refine lv_iload hx hb d_D_sink_129 (lv_at hl 5 rfl) ?_
              refine lv_iload_n hx hb d_D_sink_131 rfl (lv_at hl 3 rfl) ?_
              refine lv_isub hx hb d_D_sink_132 ?_
              refine lv_aload_n hx hb d_D_sink_133 rfl (lv_at hl 0 rfl) ?_
              refine xr_get hx hb hts (xmu uws_D) hown hw h3 rfl (by decide) (hts _ (xm w_194)) (fun _ h9 => h9) d_D_sink_134 ?_
              refine xr_cV (As := []) (rest := [.int (x5 - x3)]) ⟨hx, hb, hml, hown, hts⟩ hw hM4 hle_u_68 (fun _ _ => ⟨callB_of 0 hts (xgood w_439) rfl rfl rfl (hts _ (xm w_7)) (hts _ (xm w_436)) ⟨by decide, by decide, by decide +kernel⟩ ⟨Nat.le_of_ble_eq_true rfl, Nat.le_of_ble_eq_true rfl⟩, (hts _ (xm w_437)), (hts _ (xm w_438))⟩) (qc := (R_T, F_T, 10)) rfl rfl h5 rfl hl.1 rfl (Nat.le_of_ble_eq_true rfl) d_D_sink_137 (fun H locs hw => ?_)
              refine W.eq (g2 := F0 m 140 ls [.int r_69, .int (x5 - x3)]) rfl ?_
              refine lv_isub hx hb d_D_sink_140 ?_
              refine lv_aload_n hx hb d_D_sink_141 rfl (lv_at hl 0 rfl) ?_
              refine xr_get hx hb hts (xmu uws_D) hown hw h6 rfl (by decide) (hts _ (xm w_203)) (fun _ h9 => h9) d_D_sink_142 ?_
              refine lv_icmp_ge (tgt := 228) hx hb d_D_sink_145 (by decide) (fun c9 => absurd c9 hc7) (fun _ => ?_)
              refine lv_aload_n hx hb d_D_sink_148 rfl (lv_at hl 0 rfl) ?_
              refine xr_get hx hb hts (xmu uws_D) hown hw h8 rfl (by decide) (hts _ (xm w_195)) (fun _ h9 => h9) d_D_sink_149 ?_
              refine lv_iload hx hb d_D_sink_152 (lv_at hl 6 rfl) ?_
              refine xr_iald hx hb hw h9 d_D_sink_154 ?_
              refine lv_istore (lv' := [(7, .int z_72), (0, .ref x0), (1, .int x1), (2, .int x2), (3, .int x3), (4, .int x4), (5, .int x5), (6, .int x6)]) hx hb d_D_sink_155 hl (by decide) rfl (fun ls hl => ?_)
              refine lv_iload_n hx hb d_D_sink_157 rfl (lv_at hl 3 rfl) ?_
              refine lv_iload hx hb d_D_sink_158 (lv_at hl 0 rfl) ?_
              refine lv_ishr hx hb d_D_sink_160 ?_
              refine lv_iconst (v := 1) hx hb d_D_sink_161 (by decide) ?_
              refine lv_iand hx hb d_D_sink_162 ?_
              refine lv_iconst (v := 1) hx hb d_D_sink_163 (by decide) ?_
              refine lv_icmp_ne (tgt := 222) hx hb d_D_sink_164 (by decide) (fun c9 => absurd hc10 c9) (fun _ => ?_)
              refine lv_iload hx hb d_D_sink_167 (lv_at hl 6 rfl) ?_
              refine lv_aload_n hx hb d_D_sink_169 rfl (lv_at hl 1 rfl) ?_
              refine xr_get hx hb hts (xmu uws_D) hown hw h11 rfl (by decide) (hts _ (xm w_194)) (fun _ h9 => h9) d_D_sink_170 ?_
              refine lv_iload_n hx hb d_D_sink_173 rfl (lv_at hl 2 rfl) ?_
              refine lv_iload hx hb d_D_sink_174 (lv_at hl 0 rfl) ?_
              refine xr_cV (As := [.int x1, .int z_72]) (rest := [.int x5]) ⟨hx, hb, hml, hown, hts⟩ hw hM12 hle_u_74 (fun _ _ => ⟨callB_of 2 hts (xgood w_472) rfl rfl rfl (hts _ (xm w_7)) (hts _ (xm w_469)) ⟨by decide, by decide, by decide +kernel⟩ ⟨Nat.le_of_ble_eq_true rfl, Nat.le_of_ble_eq_true rfl⟩, (hts _ (xm w_470)), (hts _ (xm w_471))⟩) (qc := (R_T, F_T, 10)) rfl rfl h13 rfl hl.1 rfl (Nat.le_of_ble_eq_true rfl) d_D_sink_176 (fun H locs hw => ?_)
              refine W.eq (g2 := F0 m 179 ls [.int r_75, .int x5]) rfl ?_
              refine lv_iadd hx hb d_D_sink_179 ?_
              refine lv_istore (lv' := [(5, .int y14), (7, .int z_72), (0, .ref x0), (1, .int x1), (2, .int x2), (3, .int x3), (4, .int x4), (6, .int x6)]) hx hb d_D_sink_180 hl (by decide) (by subst ey14; rfl) (fun ls hl => ?_)
              refine lv_iload_n hx hb d_D_sink_182 rfl (lv_at hl 5 rfl) ?_
              refine lv_aload_n hx hb d_D_sink_183 rfl (lv_at hl 2 rfl) ?_
              refine xr_get hx hb hts (xmu uws_D) hown hw h15 rfl (by decide) (hts _ (xm w_192)) (fun _ h9 => h9) d_D_sink_184 ?_
              refine lv_iload hx hb d_D_sink_187 (lv_at hl 1 rfl) ?_
              refine xr_cV (As := [.int z_72]) (rest := [.int x3]) ⟨hx, hb, hml, hown, hts⟩ hw hM16 hle_u_77 (fun _ _ => ⟨callB_of 1 hts (xgood w_395) rfl rfl rfl (hts _ (xm w_4)) (hts _ (xm w_392)) ⟨by decide, by decide, by decide +kernel⟩ ⟨Nat.le_of_ble_eq_true rfl, Nat.le_of_ble_eq_true rfl⟩, (hts _ (xm w_393)), (hts _ (xm w_394))⟩) (qc := (R_N, F_N, 13)) rfl rfl h17 rfl hl.1 rfl (Nat.le_of_ble_eq_true rfl) d_D_sink_189 (fun H locs hw => ?_)
              refine W.eq (g2 := F0 m 192 ls [.int r_78, .int x3]) rfl ?_
              refine lv_iconst (v := 2) hx hb d_D_sink_192 (by decide) ?_
              refine lv_idiv hx hb d_D_sink_193 h18 ?_
              refine lv_isub hx hb d_D_sink_194 ?_
              refine lv_istore_n (lv' := [(3, .int y19), (5, .int y14), (7, .int z_72), (0, .ref x0), (1, .int x1), (2, .int x2), (4, .int x4), (6, .int x6)]) hx hb d_D_sink_195 rfl hl (by decide) (by subst ey19; rfl) (fun ls hl => ?_)
              refine lv_iinc (v := y20) (lv' := [(4, .int y20), (3, .int y19), (5, .int y14), (7, .int z_72), (0, .ref x0), (1, .int x1), (2, .int x2), (6, .int x6)]) hx hb d_D_sink_196 hl (k := 6) rfl (by subst ey20; rfl) (by decide) rfl (fun ls hl => ?_)
              refine lv_iload hx hb d_D_sink_199 (lv_at hl 2 rfl) ?_
              refine lv_aload_n hx hb d_D_sink_201 rfl (lv_at hl 4 rfl) ?_
              refine xr_get hx hb hts (xmu uws_D) hown hw h21 rfl (by decide) (hts _ (xm w_203)) (fun _ h9 => h9) d_D_sink_202 ?_
              refine lv_icmp_ge (tgt := 222) hx hb d_D_sink_205 (by decide) (fun _ => ?_) (fun c9 => absurd hc22 c9)
              exact w9 p e s m args below meth c A H locs ls F hw (lv_sub hl [4, 5, 6, 1, 0, 2, 7] rfl)
            · have k := k.2 hc22
              obtain ⟨u_80, h23, k⟩ := k
              obtain ⟨u_81, h24, k⟩ := k
              obtain ⟨rv, v9, hK, hle_u_81, w9⟩ := t_D_sink_J222 l Z u0 x0 x1 x2 y19 y20 y14 x6 u_81 ih hE228 k
              have hle_u_80 : x_le u_80 v9 := (h24.le).tr hle_u_81
              have hle_u_77 : x_le u_77 v9 := (h23.le).tr hle_u_80
              have hle_u_74 : x_le u_74 v9 := (hM16.1).tr hle_u_77
              have hle_u_68 : x_le u_68 v9 := (hM12.1).tr hle_u_74
              have hle_u : x_le u v9 := (hM4.1).tr hle_u_68
              refine ⟨rv, v9, hK, hle_u, ?_⟩
              intro p e s m args below meth c A H locs ls F hw hl
              obtain ⟨⟨hx, hb, hml, hown, hts⟩, hr, hlocks, hmn⟩ := id F
              refine lv_iload hx hb d_D_sink_117 (lv_at hl 4 rfl) ?_
              refine lv_if_le (tgt := 228) hx hb d_D_sink_119 (by decide) (fun c9 => absurd c9 hc1) (fun _ => ?_)
              refine lv_iload hx hb d_D_sink_122 (lv_at hl 6 rfl) ?_
              refine lv_bipush (v := 9) hx hb d_D_sink_124 (by decide) ?_
              refine lv_icmp_ge (tgt := 228) hx hb d_D_sink_126 (by decide) (fun c9 => absurd c9 hc2) (fun _ => ?_)
              refine lv_iload hx hb d_D_sink_129 (lv_at hl 5 rfl) ?_
              refine lv_iload_n hx hb d_D_sink_131 rfl (lv_at hl 3 rfl) ?_
              refine lv_isub hx hb d_D_sink_132 ?_
              refine lv_aload_n hx hb d_D_sink_133 rfl (lv_at hl 0 rfl) ?_
              refine xr_get hx hb hts (xmu uws_D) hown hw h3 rfl (by decide) (hts _ (xm w_194)) (fun _ h9 => h9) d_D_sink_134 ?_
              refine xr_cV (As := []) (rest := [.int (x5 - x3)]) ⟨hx, hb, hml, hown, hts⟩ hw hM4 hle_u_68 (fun _ _ => ⟨callB_of 0 hts (xgood w_439) rfl rfl rfl (hts _ (xm w_7)) (hts _ (xm w_436)) ⟨by decide, by decide, by decide +kernel⟩ ⟨Nat.le_of_ble_eq_true rfl, Nat.le_of_ble_eq_true rfl⟩, (hts _ (xm w_437)), (hts _ (xm w_438))⟩) (qc := (R_T, F_T, 10)) rfl rfl h5 rfl hl.1 rfl (Nat.le_of_ble_eq_true rfl) d_D_sink_137 (fun H locs hw => ?_)
              refine W.eq (g2 := F0 m 140 ls [.int r_69, .int (x5 - x3)]) rfl ?_
              refine lv_isub hx hb d_D_sink_140 ?_
              refine lv_aload_n hx hb d_D_sink_141 rfl (lv_at hl 0 rfl) ?_
              refine xr_get hx hb hts (xmu uws_D) hown hw h6 rfl (by decide) (hts _ (xm w_203)) (fun _ h9 => h9) d_D_sink_142 ?_
              refine lv_icmp_ge (tgt := 228) hx hb d_D_sink_145 (by decide) (fun c9 => absurd c9 hc7) (fun _ => ?_)
              refine lv_aload_n hx hb d_D_sink_148 rfl (lv_at hl 0 rfl) ?_
              refine xr_get hx hb hts (xmu uws_D) hown hw h8 rfl (by decide) (hts _ (xm w_195)) (fun _ h9 => h9) d_D_sink_149 ?_
              refine lv_iload hx hb d_D_sink_152 (lv_at hl 6 rfl) ?_
              refine xr_iald hx hb hw h9 d_D_sink_154 ?_
              refine lv_istore (lv' := [(7, .int z_72), (0, .ref x0), (1, .int x1), (2, .int x2), (3, .int x3), (4, .int x4), (5, .int x5), (6, .int x6)]) hx hb d_D_sink_155 hl (by decide) rfl (fun ls hl => ?_)
              refine lv_iload_n hx hb d_D_sink_157 rfl (lv_at hl 3 rfl) ?_
              refine lv_iload hx hb d_D_sink_158 (lv_at hl 0 rfl) ?_
              refine lv_ishr hx hb d_D_sink_160 ?_
              refine lv_iconst (v := 1) hx hb d_D_sink_161 (by decide) ?_
              refine lv_iand hx hb d_D_sink_162 ?_
              refine lv_iconst (v := 1) hx hb d_D_sink_163 (by decide) ?_
              refine lv_icmp_ne (tgt := 222) hx hb d_D_sink_164 (by decide) (fun c9 => absurd hc10 c9) (fun _ => ?_)
              refine lv_iload hx hb d_D_sink_167 (lv_at hl 6 rfl) ?_
              refine lv_aload_n hx hb d_D_sink_169 rfl (lv_at hl 1 rfl) ?_
              refine xr_get hx hb hts (xmu uws_D) hown hw h11 rfl (by decide) (hts _ (xm w_194)) (fun _ h9 => h9) d_D_sink_170 ?_
              refine lv_iload_n hx hb d_D_sink_173 rfl (lv_at hl 2 rfl) ?_
              refine lv_iload hx hb d_D_sink_174 (lv_at hl 0 rfl) ?_
              refine xr_cV (As := [.int x1, .int z_72]) (rest := [.int x5]) ⟨hx, hb, hml, hown, hts⟩ hw hM12 hle_u_74 (fun _ _ => ⟨callB_of 2 hts (xgood w_472) rfl rfl rfl (hts _ (xm w_7)) (hts _ (xm w_469)) ⟨by decide, by decide, by decide +kernel⟩ ⟨Nat.le_of_ble_eq_true rfl, Nat.le_of_ble_eq_true rfl⟩, (hts _ (xm w_470)), (hts _ (xm w_471))⟩) (qc := (R_T, F_T, 10)) rfl rfl h13 rfl hl.1 rfl (Nat.le_of_ble_eq_true rfl) d_D_sink_176 (fun H locs hw => ?_)
              refine W.eq (g2 := F0 m 179 ls [.int r_75, .int x5]) rfl ?_
              refine lv_iadd hx hb d_D_sink_179 ?_
              refine lv_istore (lv' := [(5, .int y14), (7, .int z_72), (0, .ref x0), (1, .int x1), (2, .int x2), (3, .int x3), (4, .int x4), (6, .int x6)]) hx hb d_D_sink_180 hl (by decide) (by subst ey14; rfl) (fun ls hl => ?_)
              refine lv_iload_n hx hb d_D_sink_182 rfl (lv_at hl 5 rfl) ?_
              refine lv_aload_n hx hb d_D_sink_183 rfl (lv_at hl 2 rfl) ?_
              refine xr_get hx hb hts (xmu uws_D) hown hw h15 rfl (by decide) (hts _ (xm w_192)) (fun _ h9 => h9) d_D_sink_184 ?_
              refine lv_iload hx hb d_D_sink_187 (lv_at hl 1 rfl) ?_
              refine xr_cV (As := [.int z_72]) (rest := [.int x3]) ⟨hx, hb, hml, hown, hts⟩ hw hM16 hle_u_77 (fun _ _ => ⟨callB_of 1 hts (xgood w_395) rfl rfl rfl (hts _ (xm w_4)) (hts _ (xm w_392)) ⟨by decide, by decide, by decide +kernel⟩ ⟨Nat.le_of_ble_eq_true rfl, Nat.le_of_ble_eq_true rfl⟩, (hts _ (xm w_393)), (hts _ (xm w_394))⟩) (qc := (R_N, F_N, 13)) rfl rfl h17 rfl hl.1 rfl (Nat.le_of_ble_eq_true rfl) d_D_sink_189 (fun H locs hw => ?_)
              refine W.eq (g2 := F0 m 192 ls [.int r_78, .int x3]) rfl ?_
              refine lv_iconst (v := 2) hx hb d_D_sink_192 (by decide) ?_
              refine lv_idiv hx hb d_D_sink_193 h18 ?_
              refine lv_isub hx hb d_D_sink_194 ?_
              refine lv_istore_n (lv' := [(3, .int y19), (5, .int y14), (7, .int z_72), (0, .ref x0), (1, .int x1), (2, .int x2), (4, .int x4), (6, .int x6)]) hx hb d_D_sink_195 rfl hl (by decide) (by subst ey19; rfl) (fun ls hl => ?_)
              refine lv_iinc (v := y20) (lv' := [(4, .int y20), (3, .int y19), (5, .int y14), (7, .int z_72), (0, .ref x0), (1, .int x1), (2, .int x2), (6, .int x6)]) hx hb d_D_sink_196 hl (k := 6) rfl (by subst ey20; rfl) (by decide) rfl (fun ls hl => ?_)
              refine lv_iload hx hb d_D_sink_199 (lv_at hl 2 rfl) ?_
              refine lv_aload_n hx hb d_D_sink_201 rfl (lv_at hl 4 rfl) ?_
              refine xr_get hx hb hts (xmu uws_D) hown hw h21 rfl (by decide) (hts _ (xm w_203)) (fun _ h9 => h9) d_D_sink_202 ?_
              refine lv_icmp_ge (tgt := 222) hx hb d_D_sink_205 (by decide) (fun c9 => absurd c9 hc22) (fun _ => ?_)
              refine lv_aload_n hx hb d_D_sink_208 rfl (lv_at hl 4 rfl) ?_
              refine lv_iload hx hb d_D_sink_209 (lv_at hl 2 rfl) ?_
              refine xr_put (ty := .int) hx hb hts (xmu uws_D) tyc_D tyc_D_ok nmc_D hown hw h23 rfl (by decide) (hts _ (xm w_203)) (fun _ h9 => h9) rfl (by decide +kernel) rfl rfl d_D_sink_211 (fun H locs hw => ?_)
              refine lv_aload_n hx hb d_D_sink_214 rfl (lv_at hl 4 rfl) ?_
              refine lv_iload hx hb d_D_sink_215 (lv_at hl 7 rfl) ?_
              refine lv_iconst (v := 1) hx hb d_D_sink_217 (by decide) ?_
              refine lv_iadd hx hb d_D_sink_218 ?_
              refine xr_put (ty := .int) hx hb hts (xmu uws_D) tyc_D tyc_D_ok nmc_D hown hw h24 rfl (by decide) (hts _ (xm w_202)) (fun _ h9 => h9) rfl (by decide +kernel) rfl rfl d_D_sink_219 (fun H locs hw => ?_)
              exact w9 p e s m args below meth c A H locs ls F hw (lv_sub hl [4, 5, 6, 1, 0, 2, 7] rfl)
          · have k := k.1 hc10
            obtain ⟨rv, v9, hK, hle_u_68, w9⟩ := t_D_sink_J222 l Z u0 x0 x1 x2 x3 x4 x5 x6 u_68 ih hE228 k
            have hle_u : x_le u v9 := (hM4.1).tr hle_u_68
            refine ⟨rv, v9, hK, hle_u, ?_⟩
            intro p e s m args below meth c A H locs ls F hw hl
            obtain ⟨⟨hx, hb, hml, hown, hts⟩, hr, hlocks, hmn⟩ := id F
            refine lv_iload hx hb d_D_sink_117 (lv_at hl 4 rfl) ?_
            refine lv_if_le (tgt := 228) hx hb d_D_sink_119 (by decide) (fun c9 => absurd c9 hc1) (fun _ => ?_)
            refine lv_iload hx hb d_D_sink_122 (lv_at hl 6 rfl) ?_
            refine lv_bipush (v := 9) hx hb d_D_sink_124 (by decide) ?_
            refine lv_icmp_ge (tgt := 228) hx hb d_D_sink_126 (by decide) (fun c9 => absurd c9 hc2) (fun _ => ?_)
            refine lv_iload hx hb d_D_sink_129 (lv_at hl 5 rfl) ?_
            refine lv_iload_n hx hb d_D_sink_131 rfl (lv_at hl 3 rfl) ?_
            refine lv_isub hx hb d_D_sink_132 ?_
            refine lv_aload_n hx hb d_D_sink_133 rfl (lv_at hl 0 rfl) ?_
            refine xr_get hx hb hts (xmu uws_D) hown hw h3 rfl (by decide) (hts _ (xm w_194)) (fun _ h9 => h9) d_D_sink_134 ?_
            refine xr_cV (As := []) (rest := [.int (x5 - x3)]) ⟨hx, hb, hml, hown, hts⟩ hw hM4 hle_u_68 (fun _ _ => ⟨callB_of 0 hts (xgood w_439) rfl rfl rfl (hts _ (xm w_7)) (hts _ (xm w_436)) ⟨by decide, by decide, by decide +kernel⟩ ⟨Nat.le_of_ble_eq_true rfl, Nat.le_of_ble_eq_true rfl⟩, (hts _ (xm w_437)), (hts _ (xm w_438))⟩) (qc := (R_T, F_T, 10)) rfl rfl h5 rfl hl.1 rfl (Nat.le_of_ble_eq_true rfl) d_D_sink_137 (fun H locs hw => ?_)
            refine W.eq (g2 := F0 m 140 ls [.int r_69, .int (x5 - x3)]) rfl ?_
            refine lv_isub hx hb d_D_sink_140 ?_
            refine lv_aload_n hx hb d_D_sink_141 rfl (lv_at hl 0 rfl) ?_
            refine xr_get hx hb hts (xmu uws_D) hown hw h6 rfl (by decide) (hts _ (xm w_203)) (fun _ h9 => h9) d_D_sink_142 ?_
            refine lv_icmp_ge (tgt := 228) hx hb d_D_sink_145 (by decide) (fun c9 => absurd c9 hc7) (fun _ => ?_)
            refine lv_aload_n hx hb d_D_sink_148 rfl (lv_at hl 0 rfl) ?_
            refine xr_get hx hb hts (xmu uws_D) hown hw h8 rfl (by decide) (hts _ (xm w_195)) (fun _ h9 => h9) d_D_sink_149 ?_
            refine lv_iload hx hb d_D_sink_152 (lv_at hl 6 rfl) ?_
            refine xr_iald hx hb hw h9 d_D_sink_154 ?_
            refine lv_istore (lv' := [(7, .int z_72), (0, .ref x0), (1, .int x1), (2, .int x2), (3, .int x3), (4, .int x4), (5, .int x5), (6, .int x6)]) hx hb d_D_sink_155 hl (by decide) rfl (fun ls hl => ?_)
            refine lv_iload_n hx hb d_D_sink_157 rfl (lv_at hl 3 rfl) ?_
            refine lv_iload hx hb d_D_sink_158 (lv_at hl 0 rfl) ?_
            refine lv_ishr hx hb d_D_sink_160 ?_
            refine lv_iconst (v := 1) hx hb d_D_sink_161 (by decide) ?_
            refine lv_iand hx hb d_D_sink_162 ?_
            refine lv_iconst (v := 1) hx hb d_D_sink_163 (by decide) ?_
            refine lv_icmp_ne (tgt := 222) hx hb d_D_sink_164 (by decide) (fun _ => ?_) (fun c9 => absurd c9 hc10)
            exact w9 p e s m args below meth c A H locs ls F hw (lv_sub hl [1, 2, 3, 4, 5, 6, 7] rfl)
set_option maxRecDepth 100000 in
set_option maxHeartbeats 4000000 in
theorem t_D_sink_J228 (l : Launch) (Z : XZ) (u0 : PS) {K : PS → Prop} (x0 : Nat) (u : PS) (k : (p_D_sink_J228 K x0 u)) : XN l Z i_D_sink u0 (kV K) u 228 [(0, .ref x0)] [] := by
  unfold p_D_sink_J228 at k
  obtain ⟨z_82, h1, k⟩ := k
  obtain ⟨h3, k⟩ := k
  obtain ⟨_, u_83, ⟨rfl, k⟩, hM2⟩ := c_T_end l Z z_82 u _ k
  have hle_u_83 : x_le u_83 u_83 := x_le.rf u_83
  have hle_u : x_le u u_83 := (hM2.1).tr hle_u_83
  refine ⟨none, u_83, ⟨rfl, k⟩, hle_u, ?_⟩
  intro p e s m args below meth c A H locs ls F hw hl
  obtain ⟨⟨hx, hb, hml, hown, hts⟩, hr, hlocks, hmn⟩ := id F
  refine lv_aload_n hx hb d_D_sink_228 rfl (lv_at hl 0 rfl) ?_
  refine xr_get hx hb hts (xmu uws_D) hown hw h1 rfl (by decide) (hts _ (xm w_194)) (fun _ h9 => h9) d_D_sink_229 ?_
  refine xr_cV (As := []) (rest := []) ⟨hx, hb, hml, hown, hts⟩ hw hM2 hle_u_83 (fun _ _ => ⟨callB_of 0 hts (xgood w_452) rfl rfl rfl (hts _ (xm w_7)) (hts _ (xm w_449)) ⟨by decide, by decide, by decide +kernel⟩ ⟨Nat.le_of_ble_eq_true rfl, Nat.le_of_ble_eq_true rfl⟩, (hts _ (xm w_450)), (hts _ (xm w_451))⟩) (qc := (R_T, F_T, 10)) rfl rfl h3 rfl hl.1 rfl (Nat.le_of_ble_eq_true rfl) d_D_sink_232 (fun H locs hw => ?_)
  refine W.eq (g2 := F0 m 235 ls []) rfl ?_
  exact xr_vret F rfl hw d_D_sink_235
set_option maxRecDepth 100000 in
set_option maxHeartbeats 4000000 in
theorem t_D_sink_J60 (l : Launch) (Z : XZ) (u0 : PS) {K : PS → Prop} (x0 : Nat) (x1 : Int32) (x2 : Int32) (x3 : Int32) (x4 : Int32) (u : PS) (k : (p_D_sink_J60 K x0 x1 x2 x3 x4 u)) : XN l Z i_D_sink u0 (kV K) u 60 [(0, .ref x0), (1, .int x1), (2, .int x2), (3, .int x3), (4, .int x4)] [] := by
  unfold p_D_sink_J60 at k
  obtain ⟨z_55, h1, k⟩ := k
  obtain ⟨h3, k⟩ := k
  obtain ⟨_, u_56, ⟨r_57, rfl, k⟩, hM2⟩ := c_N_wholeSize l Z z_55 u _ k
  by_cases hc4 : x4 = 0
  · have k := k.1 hc4
    have hle_u_56 : x_le u_56 u_56 := x_le.rf u_56
    have hle_u : x_le u u_56 := (hM2.1).tr hle_u_56
    refine ⟨none, u_56, ⟨rfl, k⟩, hle_u, ?_⟩
    intro p e s m args below meth c A H locs ls F hw hl
    obtain ⟨⟨hx, hb, hml, hown, hts⟩, hr, hlocks, hmn⟩ := id F
    refine lv_aload_n hx hb d_D_sink_60 rfl (lv_at hl 0 rfl) ?_
    refine xr_get hx hb hts (xmu uws_D) hown hw h1 rfl (by decide) (hts _ (xm w_192)) (fun _ h9 => h9) d_D_sink_61 ?_
    refine xr_cV (As := []) (rest := []) ⟨hx, hb, hml, hown, hts⟩ hw hM2 hle_u_56 (fun _ _ => ⟨callB_of 0 hts (xgood w_294) rfl rfl rfl (hts _ (xm w_4)) (hts _ (xm w_417)) ⟨by decide, by decide, by decide +kernel⟩ ⟨Nat.le_of_ble_eq_true rfl, Nat.le_of_ble_eq_true rfl⟩, (hts _ (xm w_292)), (hts _ (xm w_293))⟩) (qc := (R_N, F_N, 13)) rfl rfl h3 rfl hl.1 rfl (Nat.le_of_ble_eq_true rfl) d_D_sink_64 (fun H locs hw => ?_)
    refine W.eq (g2 := F0 m 67 ls [.int r_57]) rfl ?_
    refine lv_istore (lv' := [(5, .int r_57), (0, .ref x0), (1, .int x1), (2, .int x2), (3, .int x3), (4, .int x4)]) hx hb d_D_sink_67 hl (by decide) rfl (fun ls hl => ?_)
    refine lv_iload hx hb d_D_sink_69 (lv_at hl 5 rfl) ?_
    refine lv_if_eq (tgt := 94) hx hb d_D_sink_71 (by decide) (fun _ => ?_) (fun c9 => absurd hc4 c9)
    exact xr_vret F rfl hw d_D_sink_94
  · have k := k.2 hc4
    obtain ⟨z_58, h5, k⟩ := k
    obtain ⟨h7, k⟩ := k
    obtain ⟨_, u_59, ⟨r_60, rfl, k⟩, hM6⟩ := c_N_asksFor l Z z_58 x1 u_56 _ k
    obtain ⟨z_61, h8, k⟩ := k
    by_cases hc9 : ((r_57 - x3) - r_60) < z_61
    · have k := k.1 hc9
      obtain ⟨z_62, h10, k⟩ := k
      obtain ⟨z_63, h11, k⟩ := k
      obtain ⟨z_64, h12, k⟩ := k
      obtain ⟨h14, k⟩ := k
      obtain ⟨_, u_65, ⟨rfl, k⟩, hM13⟩ := c_T_startSinking l Z z_62 x1 z_63 z_64 u_59 _ k
      obtain ⟨z_66, h15, k⟩ := k
      obtain ⟨n16, k⟩ := k
      have hx18 : ∀ (v17 : PS), (p_D_sink_J228 K x0 v17) → XN l Z i_D_sink u0 (kV K) v17 228 [(0, .ref x0)] [] := by
        intro v17 k
        obtain ⟨rv, v9, hK, hle_v17, w9⟩ := t_D_sink_J228 l Z u0 x0 v17 k
        refine ⟨rv, v9, hK, hle_v17, ?_⟩
        intro p e s m args below meth c A H locs ls F hw hl
        obtain ⟨⟨hx, hb, hml, hown, hts⟩, hr, hlocks, hmn⟩ := id F
        exact w9 p e s m args below meth c A H locs ls F hw (lv_sub hl [0] rfl)
      obtain ⟨rv, v9, hK, hle_u_65, w9⟩ := t_D_sink_L117 l Z u0 x0 x1 x2 hx18 n16 x3 x4 r_57 z_66 u_65 k
      have hle_u_59 : x_le u_59 v9 := (hM13.1).tr hle_u_65
      have hle_u_56 : x_le u_56 v9 := (hM6.1).tr hle_u_59
      have hle_u : x_le u v9 := (hM2.1).tr hle_u_56
      refine ⟨rv, v9, hK, hle_u, ?_⟩
      intro p e s m args below meth c A H locs ls F hw hl
      obtain ⟨⟨hx, hb, hml, hown, hts⟩, hr, hlocks, hmn⟩ := id F
      refine lv_aload_n hx hb d_D_sink_60 rfl (lv_at hl 0 rfl) ?_
      refine xr_get hx hb hts (xmu uws_D) hown hw h1 rfl (by decide) (hts _ (xm w_192)) (fun _ h9 => h9) d_D_sink_61 ?_
      refine xr_cV (As := []) (rest := []) ⟨hx, hb, hml, hown, hts⟩ hw hM2 hle_u_56 (fun _ _ => ⟨callB_of 0 hts (xgood w_294) rfl rfl rfl (hts _ (xm w_4)) (hts _ (xm w_417)) ⟨by decide, by decide, by decide +kernel⟩ ⟨Nat.le_of_ble_eq_true rfl, Nat.le_of_ble_eq_true rfl⟩, (hts _ (xm w_292)), (hts _ (xm w_293))⟩) (qc := (R_N, F_N, 13)) rfl rfl h3 rfl hl.1 rfl (Nat.le_of_ble_eq_true rfl) d_D_sink_64 (fun H locs hw => ?_)
      refine W.eq (g2 := F0 m 67 ls [.int r_57]) rfl ?_
      refine lv_istore (lv' := [(5, .int r_57), (0, .ref x0), (1, .int x1), (2, .int x2), (3, .int x3), (4, .int x4)]) hx hb d_D_sink_67 hl (by decide) rfl (fun ls hl => ?_)
      refine lv_iload hx hb d_D_sink_69 (lv_at hl 5 rfl) ?_
      refine lv_if_eq (tgt := 94) hx hb d_D_sink_71 (by decide) (fun c9 => absurd c9 hc4) (fun _ => ?_)
      refine lv_iload hx hb d_D_sink_74 (lv_at hl 0 rfl) ?_
      refine lv_iload_n hx hb d_D_sink_76 rfl (lv_at hl 4 rfl) ?_
      refine lv_isub hx hb d_D_sink_77 ?_
      refine lv_aload_n hx hb d_D_sink_78 rfl (lv_at hl 1 rfl) ?_
      refine xr_get hx hb hts (xmu uws_D) hown hw h5 rfl (by decide) (hts _ (xm w_192)) (fun _ h9 => h9) d_D_sink_79 ?_
      refine lv_iload_n hx hb d_D_sink_82 rfl (lv_at hl 2 rfl) ?_
      refine xr_cV (As := [.int x1]) (rest := [.int (r_57 - x3)]) ⟨hx, hb, hml, hown, hts⟩ hw hM6 hle_u_59 (fun _ _ => ⟨callB_of 1 hts (xgood w_395) rfl rfl rfl (hts _ (xm w_4)) (hts _ (xm w_392)) ⟨by decide, by decide, by decide +kernel⟩ ⟨Nat.le_of_ble_eq_true rfl, Nat.le_of_ble_eq_true rfl⟩, (hts _ (xm w_393)), (hts _ (xm w_394))⟩) (qc := (R_N, F_N, 13)) rfl rfl h7 rfl hl.1 rfl (Nat.le_of_ble_eq_true rfl) d_D_sink_83 (fun H locs hw => ?_)
      refine W.eq (g2 := F0 m 86 ls [.int r_60, .int (r_57 - x3)]) rfl ?_
      refine lv_isub hx hb d_D_sink_86 ?_
      refine lv_aload_n hx hb d_D_sink_87 rfl (lv_at hl 1 rfl) ?_
      refine xr_get hx hb hts (xmu uws_D) hown hw h8 rfl (by decide) (hts _ (xm w_203)) (fun _ h9 => h9) d_D_sink_88 ?_
      refine lv_icmp_lt (tgt := 95) hx hb d_D_sink_91 (by decide) (fun _ => ?_) (fun c9 => absurd hc9 c9)
      refine lv_aload_n hx hb d_D_sink_95 rfl (lv_at hl 1 rfl) ?_
      refine xr_get hx hb hts (xmu uws_D) hown hw h10 rfl (by decide) (hts _ (xm w_194)) (fun _ h9 => h9) d_D_sink_96 ?_
      refine lv_iload_n hx hb d_D_sink_99 rfl (lv_at hl 2 rfl) ?_
      refine lv_aload_n hx hb d_D_sink_100 rfl (lv_at hl 1 rfl) ?_
      refine xr_get hx hb hts (xmu uws_D) hown hw h11 rfl (by decide) (hts _ (xm w_195)) (fun _ h9 => h9) d_D_sink_101 ?_
      refine lv_aload_n hx hb d_D_sink_104 rfl (lv_at hl 1 rfl) ?_
      refine xr_get hx hb hts (xmu uws_D) hown hw h12 rfl (by decide) (hts _ (xm w_201)) (fun _ h9 => h9) d_D_sink_105 ?_
      refine xr_cV (As := [.int x1, .ref z_63, .int z_64]) (rest := []) ⟨hx, hb, hml, hown, hts⟩ hw hM13 hle_u_65 (fun _ _ => ⟨callB_of 3 hts (xgood w_464) rfl rfl rfl (hts _ (xm w_7)) (hts _ (xm w_461)) ⟨by decide, by decide, by decide +kernel⟩ ⟨Nat.le_of_ble_eq_true rfl, Nat.le_of_ble_eq_true rfl⟩, (hts _ (xm w_462)), (hts _ (xm w_463))⟩) (qc := (R_T, F_T, 10)) rfl rfl h14 rfl hl.1 rfl (Nat.le_of_ble_eq_true rfl) d_D_sink_108 (fun H locs hw => ?_)
      refine W.eq (g2 := F0 m 111 ls []) rfl ?_
      refine lv_aload_n hx hb d_D_sink_111 rfl (lv_at hl 1 rfl) ?_
      refine xr_get hx hb hts (xmu uws_D) hown hw h15 rfl (by decide) (hts _ (xm w_201)) (fun _ h9 => h9) d_D_sink_112 ?_
      refine lv_istore (lv' := [(6, .int z_66), (5, .int r_57), (0, .ref x0), (1, .int x1), (2, .int x2), (3, .int x3), (4, .int x4)]) hx hb d_D_sink_115 hl (by decide) rfl (fun ls hl => ?_)
      exact w9 p e s m args below meth c A H locs ls F hw (lv_sub hl [2, 3, 4, 5, 6, 1, 0] rfl)
    · have k := k.2 hc9
      have hle_u_59 : x_le u_59 u_59 := x_le.rf u_59
      have hle_u_56 : x_le u_56 u_59 := (hM6.1).tr hle_u_59
      have hle_u : x_le u u_59 := (hM2.1).tr hle_u_56
      refine ⟨none, u_59, ⟨rfl, k⟩, hle_u, ?_⟩
      intro p e s m args below meth c A H locs ls F hw hl
      obtain ⟨⟨hx, hb, hml, hown, hts⟩, hr, hlocks, hmn⟩ := id F
      refine lv_aload_n hx hb d_D_sink_60 rfl (lv_at hl 0 rfl) ?_
      refine xr_get hx hb hts (xmu uws_D) hown hw h1 rfl (by decide) (hts _ (xm w_192)) (fun _ h9 => h9) d_D_sink_61 ?_
      refine xr_cV (As := []) (rest := []) ⟨hx, hb, hml, hown, hts⟩ hw hM2 hle_u_56 (fun _ _ => ⟨callB_of 0 hts (xgood w_294) rfl rfl rfl (hts _ (xm w_4)) (hts _ (xm w_417)) ⟨by decide, by decide, by decide +kernel⟩ ⟨Nat.le_of_ble_eq_true rfl, Nat.le_of_ble_eq_true rfl⟩, (hts _ (xm w_292)), (hts _ (xm w_293))⟩) (qc := (R_N, F_N, 13)) rfl rfl h3 rfl hl.1 rfl (Nat.le_of_ble_eq_true rfl) d_D_sink_64 (fun H locs hw => ?_)
      refine W.eq (g2 := F0 m 67 ls [.int r_57]) rfl ?_
      refine lv_istore (lv' := [(5, .int r_57), (0, .ref x0), (1, .int x1), (2, .int x2), (3, .int x3), (4, .int x4)]) hx hb d_D_sink_67 hl (by decide) rfl (fun ls hl => ?_)
      refine lv_iload hx hb d_D_sink_69 (lv_at hl 5 rfl) ?_
      refine lv_if_eq (tgt := 94) hx hb d_D_sink_71 (by decide) (fun c9 => absurd c9 hc4) (fun _ => ?_)
      refine lv_iload hx hb d_D_sink_74 (lv_at hl 0 rfl) ?_
      refine lv_iload_n hx hb d_D_sink_76 rfl (lv_at hl 4 rfl) ?_
      refine lv_isub hx hb d_D_sink_77 ?_
      refine lv_aload_n hx hb d_D_sink_78 rfl (lv_at hl 1 rfl) ?_
      refine xr_get hx hb hts (xmu uws_D) hown hw h5 rfl (by decide) (hts _ (xm w_192)) (fun _ h9 => h9) d_D_sink_79 ?_
      refine lv_iload_n hx hb d_D_sink_82 rfl (lv_at hl 2 rfl) ?_
      refine xr_cV (As := [.int x1]) (rest := [.int (r_57 - x3)]) ⟨hx, hb, hml, hown, hts⟩ hw hM6 hle_u_59 (fun _ _ => ⟨callB_of 1 hts (xgood w_395) rfl rfl rfl (hts _ (xm w_4)) (hts _ (xm w_392)) ⟨by decide, by decide, by decide +kernel⟩ ⟨Nat.le_of_ble_eq_true rfl, Nat.le_of_ble_eq_true rfl⟩, (hts _ (xm w_393)), (hts _ (xm w_394))⟩) (qc := (R_N, F_N, 13)) rfl rfl h7 rfl hl.1 rfl (Nat.le_of_ble_eq_true rfl) d_D_sink_83 (fun H locs hw => ?_)
      refine W.eq (g2 := F0 m 86 ls [.int r_60, .int (r_57 - x3)]) rfl ?_
      refine lv_isub hx hb d_D_sink_86 ?_
      refine lv_aload_n hx hb d_D_sink_87 rfl (lv_at hl 1 rfl) ?_
      refine xr_get hx hb hts (xmu uws_D) hown hw h8 rfl (by decide) (hts _ (xm w_203)) (fun _ h9 => h9) d_D_sink_88 ?_
      refine lv_icmp_lt (tgt := 95) hx hb d_D_sink_91 (by decide) (fun c9 => absurd c9 hc9) (fun _ => ?_)
      exact xr_vret F rfl hw d_D_sink_94
set_option maxRecDepth 100000 in
set_option maxHeartbeats 4000000 in
theorem c_D_sink (l : Launch) (Z : XZ) (x0 : Nat) (x1 : Int32) (x2 : Int32) (u : PS) (K : PS → Prop) (k : p_D_sink x0 x1 x2 u K) : ∃ (rv : Option Value) (u1 : PS), (kV K) rv u1 ∧ XMet l Z i_D_sink [.ref x0, .int x1, .int x2] u rv u1 := by
  refine x_met (by decide) rfl (Nat.le_of_ble_eq_true rfl) ?_
  show XN l Z i_D_sink u (kV K) u 0 [(0, .ref x0), (1, .int x1), (2, .int x2)] []
  unfold p_D_sink at k
  obtain ⟨z_49, h1, k⟩ := k
  obtain ⟨n2, k⟩ := k
  have hx6 : ∀ (y3_3 : Int32) (y4_4 : Int32) (v5 : PS), (p_D_sink_J60 K x0 x1 x2 y3_3 y4_4 v5) → XN l Z i_D_sink u (kV K) v5 60 [(0, .ref x0), (1, .int x1), (2, .int x2), (3, .int y3_3), (4, .int y4_4)] [] := by
    intro y3_3 y4_4 v5 k
    obtain ⟨rv, v9, hK, hle_v5, w9⟩ := t_D_sink_J60 l Z u x0 x1 x2 y3_3 y4_4 v5 k
    refine ⟨rv, v9, hK, hle_v5, ?_⟩
    intro p e s m args below meth c A H locs ls F hw hl
    obtain ⟨⟨hx, hb, hml, hown, hts⟩, hr, hlocks, hmn⟩ := id F
    exact w9 p e s m args below meth c A H locs ls F hw (lv_sub hl [0, 1, 2, 3, 4] rfl)
  obtain ⟨rv, v9, hK, hle_u, w9⟩ := t_D_sink_L11 l Z u x0 x1 x2 hx6 n2 (-1 : Int32) (0 : Int32) z_49 u k
  refine ⟨rv, v9, hK, hle_u, ?_⟩
  intro p e s m args below meth c A H locs ls F hw hl
  obtain ⟨⟨hx, hb, hml, hown, hts⟩, hr, hlocks, hmn⟩ := id F
  refine lv_iconst (v := (-1)) hx hb d_D_sink_0 (by decide) ?_
  refine lv_istore_n (lv' := [(3, .int (-1)), (0, .ref x0), (1, .int x1), (2, .int x2)]) hx hb d_D_sink_1 rfl hl (by decide) rfl (fun ls hl => ?_)
  refine lv_iconst (v := 0) hx hb d_D_sink_2 (by decide) ?_
  refine lv_istore (lv' := [(4, .int 0), (3, .int (-1)), (0, .ref x0), (1, .int x1), (2, .int x2)]) hx hb d_D_sink_3 hl (by decide) rfl (fun ls hl => ?_)
  refine lv_aload_n hx hb d_D_sink_5 rfl (lv_at hl 2 rfl) ?_
  refine xr_get hx hb hts (xmu uws_D) hown hw h1 rfl (by decide) (hts _ (xm w_201)) (fun _ h9 => h9) d_D_sink_6 ?_
  refine lv_istore (lv' := [(5, .int z_49), (4, .int 0), (3, .int (-1)), (0, .ref x0), (1, .int x1), (2, .int x2)]) hx hb d_D_sink_9 hl (by decide) rfl (fun ls hl => ?_)
  exact w9 p e s m args below meth c A H locs ls F hw (lv_sub hl [3, 4, 5, 2, 1, 0] rfl)
set_option maxRecDepth 100000 in
set_option maxHeartbeats 4000000 in
theorem t_D_settle_J76 (l : Launch) (Z : XZ) (u0 : PS) {K : Int32 → PS → Prop} (x0 : Nat) (x1 : Int32) (u : PS) (k : (p_D_settle_J76 K x0 x1 u)) : XN l Z i_D_settle u0 (kI K) u 76 [(0, .ref x0), (1, .int x1)] [] := by
  unfold p_D_settle_J76 at k
  obtain ⟨z_26, h1, k⟩ := k
  obtain ⟨h3, k⟩ := k
  obtain ⟨_, u_27, ⟨rfl, k⟩, hM2⟩ := c_D_putIn l Z x0 x1 z_26 u _ k
  obtain ⟨z_28, h4, k⟩ := k
  have hle_u_27 : x_le u_27 u_27 := x_le.rf u_27
  have hle_u : x_le u u_27 := (hM2.1).tr hle_u_27
  refine ⟨some (.int z_28), u_27, ⟨z_28, rfl, k⟩, hle_u, ?_⟩
  intro p e s m args below meth c A H locs ls F hw hl
  obtain ⟨⟨hx, hb, hml, hown, hts⟩, hr, hlocks, hmn⟩ := id F
  refine lv_aload_n hx hb d_D_settle_76 rfl (lv_at hl 0 rfl) ?_
  refine lv_iload_n hx hb d_D_settle_77 rfl (lv_at hl 1 rfl) ?_
  refine lv_aload_n hx hb d_D_settle_78 rfl (lv_at hl 0 rfl) ?_
  refine xr_get hx hb hts (xmu uws_D) hown hw h1 rfl (by decide) (hts _ (xm w_202)) (fun _ h9 => h9) d_D_settle_79 ?_
  refine xr_cV (As := [.int x1, .int z_26]) (rest := []) ⟨hx, hb, hml, hown, hts⟩ hw hM2 hle_u_27 (fun _ _ => ⟨callB_of 2 hts (xgood w_498) rfl rfl rfl (hts _ (xm w_3)) (hts _ (xm w_495)) ⟨by decide, by decide, by decide +kernel⟩ ⟨Nat.le_of_ble_eq_true rfl, Nat.le_of_ble_eq_true rfl⟩, (hts _ (xm w_497)), (hts _ (xm wp_29))⟩) (qc := (R_D, F_D, 13)) rfl rfl h3 rfl hl.1 rfl (Nat.le_of_ble_eq_true rfl) d_D_settle_82 (fun H locs hw => ?_)
  refine W.eq (g2 := F0 m 85 ls []) rfl ?_
  refine lv_aload_n hx hb d_D_settle_85 rfl (lv_at hl 0 rfl) ?_
  refine xr_get hx hb hts (xmu uws_D) hown hw h4 rfl (by decide) (hts _ (xm w_202)) (fun _ h9 => h9) d_D_settle_86 ?_
  exact xr_iret F rfl hw d_D_settle_89
set_option maxRecDepth 100000 in
set_option maxHeartbeats 4000000 in
theorem t_D_settle_J30 (l : Launch) (Z : XZ) (u0 : PS) {K : Int32 → PS → Prop} (x0 : Nat) (x1 : Int32) (s0 : Int32) (u : PS) (k : (p_D_settle_J30 K x0 x1 s0 u)) : XN l Z i_D_settle u0 (kI K) u 30 [(0, .ref x0), (1, .int x1)] [.int s0] := by
  unfold p_D_settle_J30 at k
  by_cases hc1 : s0 = 0
  · have k := k.1 hc1
    obtain ⟨rv, v9, hK, hle_u, w9⟩ := t_D_settle_J76 l Z u0 x0 x1 u k
    refine ⟨rv, v9, hK, hle_u, ?_⟩
    intro p e s m args below meth c A H locs ls F hw hl
    obtain ⟨⟨hx, hb, hml, hown, hts⟩, hr, hlocks, hmn⟩ := id F
    refine lv_istore_n (lv' := [(2, .int s0), (0, .ref x0), (1, .int x1)]) hx hb d_D_settle_30 rfl hl (by decide) rfl (fun ls hl => ?_)
    refine lv_iload_n hx hb d_D_settle_31 rfl (lv_at hl 0 rfl) ?_
    refine lv_if_eq (tgt := 76) hx hb d_D_settle_32 (by decide) (fun _ => ?_) (fun c9 => absurd hc1 c9)
    exact w9 p e s m args below meth c A H locs ls F hw (lv_sub hl [1, 2] rfl)
  · have k := k.2 hc1
    obtain ⟨z_29, h2, k⟩ := k
    obtain ⟨u_30, h3, k⟩ := k
    obtain ⟨z_31, h4, k⟩ := k
    obtain ⟨h6, k⟩ := k
    obtain ⟨_, u_32, ⟨r_33, rfl, k⟩, hM5⟩ := c_N_wholeSize l Z z_31 u_30 _ k
    obtain ⟨u_34, h7, k⟩ := k
    obtain ⟨h9, k⟩ := k
    obtain ⟨_, u_35, ⟨rfl, k⟩, hM8⟩ := c_D_rise l Z x0 x1 s0 u_34 _ k
    obtain ⟨h11, k⟩ := k
    obtain ⟨_, u_36, ⟨rfl, k⟩, hM10⟩ := c_D_sink l Z x0 x1 s0 u_35 _ k
    obtain ⟨z_37, h12, k⟩ := k
    obtain ⟨h14, k⟩ := k
    obtain ⟨_, u_38, ⟨rfl, k⟩, hM13⟩ := c_D_pass l Z x0 x1 z_37 s0 u_36 _ k
    obtain ⟨rv, v9, hK, hle_u_38, w9⟩ := t_D_settle_J76 l Z u0 x0 x1 u_38 k
    have hle_u_36 : x_le u_36 v9 := (hM13.1).tr hle_u_38
    have hle_u_35 : x_le u_35 v9 := (hM10.1).tr hle_u_36
    have hle_u_34 : x_le u_34 v9 := (hM8.1).tr hle_u_35
    have hle_u_32 : x_le u_32 v9 := (h7.le).tr hle_u_34
    have hle_u_30 : x_le u_30 v9 := (hM5.1).tr hle_u_32
    have hle_u : x_le u v9 := (h3.le).tr hle_u_30
    refine ⟨rv, v9, hK, hle_u, ?_⟩
    intro p e s m args below meth c A H locs ls F hw hl
    obtain ⟨⟨hx, hb, hml, hown, hts⟩, hr, hlocks, hmn⟩ := id F
    refine lv_istore_n (lv' := [(2, .int s0), (0, .ref x0), (1, .int x1)]) hx hb d_D_settle_30 rfl hl (by decide) rfl (fun ls hl => ?_)
    refine lv_iload_n hx hb d_D_settle_31 rfl (lv_at hl 0 rfl) ?_
    refine lv_if_eq (tgt := 76) hx hb d_D_settle_32 (by decide) (fun c9 => absurd c9 hc1) (fun _ => ?_)
    refine lv_aload_n hx hb d_D_settle_35 rfl (lv_at hl 1 rfl) ?_
    refine lv_aload_n hx hb d_D_settle_36 rfl (lv_at hl 1 rfl) ?_
    refine xr_get hx hb hts (xmu uws_D) hown hw h2 rfl (by decide) (hts _ (xm w_201)) (fun _ h9 => h9) d_D_settle_37 ?_
    refine xr_put (ty := .int) hx hb hts (xmu uws_D) tyc_D tyc_D_ok nmc_D hown hw h3 rfl (by decide) (hts _ (xm w_202)) (fun _ h9 => h9) rfl (by decide +kernel) rfl rfl d_D_settle_40 (fun H locs hw => ?_)
    refine lv_aload_n hx hb d_D_settle_43 rfl (lv_at hl 1 rfl) ?_
    refine lv_aload_n hx hb d_D_settle_44 rfl (lv_at hl 1 rfl) ?_
    refine xr_get hx hb hts (xmu uws_D) hown hw h4 rfl (by decide) (hts _ (xm w_192)) (fun _ h9 => h9) d_D_settle_45 ?_
    refine xr_cV (As := []) (rest := [.ref x0]) ⟨hx, hb, hml, hown, hts⟩ hw hM5 hle_u_32 (fun _ _ => ⟨callB_of 0 hts (xgood w_294) rfl rfl rfl (hts _ (xm w_4)) (hts _ (xm w_417)) ⟨by decide, by decide, by decide +kernel⟩ ⟨Nat.le_of_ble_eq_true rfl, Nat.le_of_ble_eq_true rfl⟩, (hts _ (xm w_292)), (hts _ (xm w_293))⟩) (qc := (R_N, F_N, 13)) rfl rfl h6 rfl hl.1 rfl (Nat.le_of_ble_eq_true rfl) d_D_settle_48 (fun H locs hw => ?_)
    refine W.eq (g2 := F0 m 51 ls [.int r_33, .ref x0]) rfl ?_
    refine xr_put (ty := .int) hx hb hts (xmu uws_D) tyc_D tyc_D_ok nmc_D hown hw h7 rfl (by decide) (hts _ (xm w_203)) (fun _ h9 => h9) rfl (by decide +kernel) rfl rfl d_D_settle_51 (fun H locs hw => ?_)
    refine lv_aload_n hx hb d_D_settle_54 rfl (lv_at hl 1 rfl) ?_
    refine lv_iload_n hx hb d_D_settle_55 rfl (lv_at hl 2 rfl) ?_
    refine lv_iload_n hx hb d_D_settle_56 rfl (lv_at hl 0 rfl) ?_
    refine xr_cV (As := [.int x1, .int s0]) (rest := []) ⟨hx, hb, hml, hown, hts⟩ hw hM8 hle_u_35 (fun _ _ => ⟨callB_of 2 hts (xgood w_421) rfl rfl rfl (hts _ (xm w_3)) (hts _ (xm w_418)) ⟨by decide, by decide, by decide +kernel⟩ ⟨Nat.le_of_ble_eq_true rfl, Nat.le_of_ble_eq_true rfl⟩, (hts _ (xm w_420)), (hts _ (xm wp_20))⟩) (qc := (R_D, F_D, 13)) rfl rfl h9 rfl hl.1 rfl (Nat.le_of_ble_eq_true rfl) d_D_settle_57 (fun H locs hw => ?_)
    refine W.eq (g2 := F0 m 60 ls []) rfl ?_
    refine lv_aload_n hx hb d_D_settle_60 rfl (lv_at hl 1 rfl) ?_
    refine lv_iload_n hx hb d_D_settle_61 rfl (lv_at hl 2 rfl) ?_
    refine lv_iload_n hx hb d_D_settle_62 rfl (lv_at hl 0 rfl) ?_
    refine xr_cV (As := [.int x1, .int s0]) (rest := []) ⟨hx, hb, hml, hown, hts⟩ hw hM10 hle_u_36 (fun _ _ => ⟨callB_of 2 hts (xgood w_460) rfl rfl rfl (hts _ (xm w_3)) (hts _ (xm w_457)) ⟨by decide, by decide, by decide +kernel⟩ ⟨Nat.le_of_ble_eq_true rfl, Nat.le_of_ble_eq_true rfl⟩, (hts _ (xm w_459)), (hts _ (xm wp_23))⟩) (qc := (R_D, F_D, 13)) rfl rfl h11 rfl hl.1 rfl (Nat.le_of_ble_eq_true rfl) d_D_settle_63 (fun H locs hw => ?_)
    refine W.eq (g2 := F0 m 66 ls []) rfl ?_
    refine lv_aload_n hx hb d_D_settle_66 rfl (lv_at hl 1 rfl) ?_
    refine lv_iload_n hx hb d_D_settle_67 rfl (lv_at hl 2 rfl) ?_
    refine lv_aload_n hx hb d_D_settle_68 rfl (lv_at hl 1 rfl) ?_
    refine xr_get hx hb hts (xmu uws_D) hown hw h12 rfl (by decide) (hts _ (xm w_202)) (fun _ h9 => h9) d_D_settle_69 ?_
    refine lv_iload_n hx hb d_D_settle_72 rfl (lv_at hl 0 rfl) ?_
    refine xr_cV (As := [.int x1, .int z_37, .int s0]) (rest := []) ⟨hx, hb, hml, hown, hts⟩ hw hM13 hle_u_38 (fun _ _ => ⟨callB_of 3 hts (xgood w_480) rfl rfl rfl (hts _ (xm w_3)) (hts _ (xm w_477)) ⟨by decide, by decide, by decide +kernel⟩ ⟨Nat.le_of_ble_eq_true rfl, Nat.le_of_ble_eq_true rfl⟩, (hts _ (xm w_479)), (hts _ (xm wp_26))⟩) (qc := (R_D, F_D, 13)) rfl rfl h14 rfl hl.1 rfl (Nat.le_of_ble_eq_true rfl) d_D_settle_73 (fun H locs hw => ?_)
    refine W.eq (g2 := F0 m 76 ls []) rfl ?_
    exact w9 p e s m args below meth c A H locs ls F hw (lv_sub hl [1, 2] rfl)
set_option maxRecDepth 100000 in
set_option maxHeartbeats 4000000 in
theorem c_D_settle (l : Launch) (Z : XZ) (x0 : Nat) (x1 : Int32) (u : PS) (K : Int32 → PS → Prop) (k : p_D_settle x0 x1 u K) : ∃ (rv : Option Value) (u1 : PS), (kI K) rv u1 ∧ XMet l Z i_D_settle [.ref x0, .int x1] u rv u1 := by
  refine x_met (by decide) rfl (Nat.le_of_ble_eq_true rfl) ?_
  show XN l Z i_D_settle u (kI K) u 0 [(0, .ref x0), (1, .int x1)] []
  unfold p_D_settle at k
  obtain ⟨h2, k⟩ := k
  obtain ⟨_, u_21, ⟨rfl, k⟩, hM1⟩ := c_D_takeOut l Z x0 x1 u _ k
  obtain ⟨u_22, h3, k⟩ := k
  obtain ⟨z_23, h4, k⟩ := k
  obtain ⟨h6, k⟩ := k
  obtain ⟨_, u_24, ⟨r_25, rfl, k⟩, hM5⟩ := c_N_asksFor l Z z_23 x1 u_22 _ k
  by_cases hc7 : r_25 ≤ 0
  · have k := k.1 hc7
    obtain ⟨rv, v9, hK, hle_u_24, w9⟩ := t_D_settle_J30 l Z u x0 x1 (0 : Int32) u_24 k
    have hle_u_22 : x_le u_22 v9 := (hM5.1).tr hle_u_24
    have hle_u_21 : x_le u_21 v9 := (h3.le).tr hle_u_22
    have hle_u : x_le u v9 := (hM1.1).tr hle_u_21
    refine ⟨rv, v9, hK, hle_u, ?_⟩
    intro p e s m args below meth c A H locs ls F hw hl
    obtain ⟨⟨hx, hb, hml, hown, hts⟩, hr, hlocks, hmn⟩ := id F
    refine lv_aload_n hx hb d_D_settle_0 rfl (lv_at hl 0 rfl) ?_
    refine lv_iload_n hx hb d_D_settle_1 rfl (lv_at hl 1 rfl) ?_
    refine xr_cV (As := [.int x1]) (rest := []) ⟨hx, hb, hml, hown, hts⟩ hw hM1 hle_u_21 (fun _ _ => ⟨callB_of 1 hts (xgood w_407) rfl rfl rfl (hts _ (xm w_3)) (hts _ (xm w_404)) ⟨by decide, by decide, by decide +kernel⟩ ⟨Nat.le_of_ble_eq_true rfl, Nat.le_of_ble_eq_true rfl⟩, (hts _ (xm w_406)), (hts _ (xm wp_18))⟩) (qc := (R_D, F_D, 13)) rfl rfl h2 rfl hl.1 rfl (Nat.le_of_ble_eq_true rfl) d_D_settle_2 (fun H locs hw => ?_)
    refine W.eq (g2 := F0 m 5 ls []) rfl ?_
    refine lv_aload_n hx hb d_D_settle_5 rfl (lv_at hl 0 rfl) ?_
    refine lv_iconst (v := 0) hx hb d_D_settle_6 (by decide) ?_
    refine xr_put (ty := .int) hx hb hts (xmu uws_D) tyc_D tyc_D_ok nmc_D hown hw h3 rfl (by decide) (hts _ (xm w_202)) (fun _ h9 => h9) rfl (by decide +kernel) rfl rfl d_D_settle_7 (fun H locs hw => ?_)
    refine lv_aload_n hx hb d_D_settle_10 rfl (lv_at hl 0 rfl) ?_
    refine xr_get hx hb hts (xmu uws_D) hown hw h4 rfl (by decide) (hts _ (xm w_192)) (fun _ h9 => h9) d_D_settle_11 ?_
    refine lv_iload_n hx hb d_D_settle_14 rfl (lv_at hl 1 rfl) ?_
    refine xr_cV (As := [.int x1]) (rest := []) ⟨hx, hb, hml, hown, hts⟩ hw hM5 hle_u_24 (fun _ _ => ⟨callB_of 1 hts (xgood w_395) rfl rfl rfl (hts _ (xm w_4)) (hts _ (xm w_392)) ⟨by decide, by decide, by decide +kernel⟩ ⟨Nat.le_of_ble_eq_true rfl, Nat.le_of_ble_eq_true rfl⟩, (hts _ (xm w_393)), (hts _ (xm w_394))⟩) (qc := (R_N, F_N, 13)) rfl rfl h6 rfl hl.1 rfl (Nat.le_of_ble_eq_true rfl) d_D_settle_15 (fun H locs hw => ?_)
    refine W.eq (g2 := F0 m 18 ls [.int r_25]) rfl ?_
    refine lv_if_le (tgt := 29) hx hb d_D_settle_18 (by decide) (fun _ => ?_) (fun c9 => absurd hc7 c9)
    refine lv_iconst (v := 0) hx hb d_D_settle_29 (by decide) ?_
    exact w9 p e s m args below meth c A H locs ls F hw (lv_sub hl [0, 1] rfl)
  · have k := k.2 hc7
    obtain ⟨h9, k⟩ := k
    obtain ⟨_, u_39, ⟨r_40, rfl, k⟩, hM8⟩ := c_D_matesOf l Z x0 x1 u_24 _ k
    obtain ⟨rv, v9, hK, hle_u_39, w9⟩ := t_D_settle_J30 l Z u x0 x1 r_40 u_39 k
    have hle_u_24 : x_le u_24 v9 := (hM8.1).tr hle_u_39
    have hle_u_22 : x_le u_22 v9 := (hM5.1).tr hle_u_24
    have hle_u_21 : x_le u_21 v9 := (h3.le).tr hle_u_22
    have hle_u : x_le u v9 := (hM1.1).tr hle_u_21
    refine ⟨rv, v9, hK, hle_u, ?_⟩
    intro p e s m args below meth c A H locs ls F hw hl
    obtain ⟨⟨hx, hb, hml, hown, hts⟩, hr, hlocks, hmn⟩ := id F
    refine lv_aload_n hx hb d_D_settle_0 rfl (lv_at hl 0 rfl) ?_
    refine lv_iload_n hx hb d_D_settle_1 rfl (lv_at hl 1 rfl) ?_
    refine xr_cV (As := [.int x1]) (rest := []) ⟨hx, hb, hml, hown, hts⟩ hw hM1 hle_u_21 (fun _ _ => ⟨callB_of 1 hts (xgood w_407) rfl rfl rfl (hts _ (xm w_3)) (hts _ (xm w_404)) ⟨by decide, by decide, by decide +kernel⟩ ⟨Nat.le_of_ble_eq_true rfl, Nat.le_of_ble_eq_true rfl⟩, (hts _ (xm w_406)), (hts _ (xm wp_18))⟩) (qc := (R_D, F_D, 13)) rfl rfl h2 rfl hl.1 rfl (Nat.le_of_ble_eq_true rfl) d_D_settle_2 (fun H locs hw => ?_)
    refine W.eq (g2 := F0 m 5 ls []) rfl ?_
    refine lv_aload_n hx hb d_D_settle_5 rfl (lv_at hl 0 rfl) ?_
    refine lv_iconst (v := 0) hx hb d_D_settle_6 (by decide) ?_
    refine xr_put (ty := .int) hx hb hts (xmu uws_D) tyc_D tyc_D_ok nmc_D hown hw h3 rfl (by decide) (hts _ (xm w_202)) (fun _ h9 => h9) rfl (by decide +kernel) rfl rfl d_D_settle_7 (fun H locs hw => ?_)
    refine lv_aload_n hx hb d_D_settle_10 rfl (lv_at hl 0 rfl) ?_
    refine xr_get hx hb hts (xmu uws_D) hown hw h4 rfl (by decide) (hts _ (xm w_192)) (fun _ h9 => h9) d_D_settle_11 ?_
    refine lv_iload_n hx hb d_D_settle_14 rfl (lv_at hl 1 rfl) ?_
    refine xr_cV (As := [.int x1]) (rest := []) ⟨hx, hb, hml, hown, hts⟩ hw hM5 hle_u_24 (fun _ _ => ⟨callB_of 1 hts (xgood w_395) rfl rfl rfl (hts _ (xm w_4)) (hts _ (xm w_392)) ⟨by decide, by decide, by decide +kernel⟩ ⟨Nat.le_of_ble_eq_true rfl, Nat.le_of_ble_eq_true rfl⟩, (hts _ (xm w_393)), (hts _ (xm w_394))⟩) (qc := (R_N, F_N, 13)) rfl rfl h6 rfl hl.1 rfl (Nat.le_of_ble_eq_true rfl) d_D_settle_15 (fun H locs hw => ?_)
    refine W.eq (g2 := F0 m 18 ls [.int r_25]) rfl ?_
    refine lv_if_le (tgt := 29) hx hb d_D_settle_18 (by decide) (fun c9 => absurd c9 hc7) (fun _ => ?_)
    refine lv_aload_n hx hb d_D_settle_21 rfl (lv_at hl 0 rfl) ?_
    refine lv_iload_n hx hb d_D_settle_22 rfl (lv_at hl 1 rfl) ?_
    refine xr_cV (As := [.int x1]) (rest := []) ⟨hx, hb, hml, hown, hts⟩ hw hM8 hle_u_39 (fun _ _ => ⟨callB_of 1 hts (xgood w_412) rfl rfl rfl (hts _ (xm w_3)) (hts _ (xm w_409)) ⟨by decide, by decide, by decide +kernel⟩ ⟨Nat.le_of_ble_eq_true rfl, Nat.le_of_ble_eq_true rfl⟩, (hts _ (xm w_411)), (hts _ (xm wp_19))⟩) (qc := (R_D, F_D, 13)) rfl rfl h9 rfl hl.1 rfl (Nat.le_of_ble_eq_true rfl) d_D_settle_23 (fun H locs hw => ?_)
    refine W.eq (g2 := F0 m 26 ls [.int r_40]) rfl ?_
    refine lv_goto (tgt := 30) hx hb d_D_settle_26 (by decide) ?_
    exact w9 p e s m args below meth c A H locs ls F hw (lv_sub hl [0, 1] rfl)
set_option maxRecDepth 100000 in
set_option maxHeartbeats 4000000 in
theorem t_D_takeTurns_J84 (l : Launch) (Z : XZ) (u0 : PS) {Kv : Option Value → PS → Prop} {R : Int32 → Int32 → PS → Prop} {E90 : Int32 → PS → Prop} (x0 : Nat) (x1 : Int32) (x2 : Int32) (u : PS) (hR : ∀ (y1 : Int32) (y2 : Int32) (v : PS), R y1 y2 v → XN l Z i_D_takeTurns u0 Kv v 4 [(0, .ref x0), (1, .int y1), (2, .int y2)] []) (hE90 : ∀ (y1 : Int32) (v : PS), E90 y1 v → XN l Z i_D_takeTurns u0 Kv v 90 [(1, .int y1)] []) (k : (p_D_takeTurns_J84 R E90 x0 x1 x2 u)) : XN l Z i_D_takeTurns u0 Kv u 84 [(0, .ref x0), (1, .int x1), (2, .int x2)] [] := by
  unfold p_D_takeTurns_J84 at k
  obtain ⟨y1, ey1⟩ : ∃ y9 : Int32, y9 = x2 + 1 := ⟨_, rfl⟩
  have k := k y1 ey1
  obtain ⟨rv, v9, hK, hle_u, w9⟩ := hR x1 y1 u k
  refine ⟨rv, v9, hK, hle_u, ?_⟩
  intro p e s m args below meth c A H locs ls F hw hl
  obtain ⟨⟨hx, hb, hml, hown, hts⟩, hr, hlocks, hmn⟩ := id F
  refine lv_iinc (v := y1) (lv' := [(2, .int y1), (0, .ref x0), (1, .int x1)]) hx hb d_D_takeTurns_84 hl (k := 2) rfl (by subst ey1; rfl) (by decide) rfl (fun ls hl => ?_)
  refine lv_goto (tgt := 4) hx hb d_D_takeTurns_87 (by decide) ?_
  exact w9 p e s m args below meth c A H locs ls F hw (lv_sub hl [1, 2, 0] rfl)
set_option maxRecDepth 100000 in
set_option maxHeartbeats 4000000 in
theorem t_D_takeTurns_L26 (l : Launch) (Z : XZ) (u0 : PS) {Kv : Option Value → PS → Prop} {E73 : Int32 → PS → Prop} (x0 : Nat) (x1 : Int32) (x2 : Int32) (x3 : Int32) (hE73 : ∀ (y4 : Int32) (v : PS), E73 y4 v → XN l Z i_D_takeTurns u0 Kv v 73 [(0, .ref x0), (1, .int x1), (2, .int x2), (4, .int y4)] []) : ∀ (n : Nat) (x4 : Int32) (u : PS), p_D_takeTurns_L26 x0 x1 x2 x3 E73 n x4 u → XN l Z i_D_takeTurns u0 Kv u 26 [(0, .ref x0), (1, .int x1), (2, .int x2), (3, .int x3), (4, .int x4)] [] := by
  intro n
  induction n with
  | zero => intro x4 u k; exact False.elim k
  | succ n ih =>
    intro x4 u k
    rw [p_D_takeTurns_L26] at k
    by_cases hc1 : x4 ≤ 0
    · have k := k.1 hc1
      obtain ⟨rv, v9, hK, hle_u, w9⟩ := hE73 x4 u k
      refine ⟨rv, v9, hK, hle_u, ?_⟩
      intro p e s m args below meth c A H locs ls F hw hl
      obtain ⟨⟨hx, hb, hml, hown, hts⟩, hr, hlocks, hmn⟩ := id F
      refine lv_iload hx hb d_D_takeTurns_26 (lv_at hl 4 rfl) ?_
      refine lv_if_le (tgt := 73) hx hb d_D_takeTurns_28 (by decide) (fun _ => ?_) (fun c9 => absurd hc1 c9)
      exact w9 p e s m args below meth c A H locs ls F hw (lv_sub hl [0, 1, 2, 4] rfl)
    · have k := k.2 hc1
      obtain ⟨z_27, h2, k⟩ := k
      obtain ⟨z_28, h3, k⟩ := k
      obtain ⟨z_29, h4, k⟩ := k
      obtain ⟨h6, k⟩ := k
      obtain ⟨_, u_30, ⟨r_31, rfl, k⟩, hM5⟩ := c_N_asksFor l Z z_27 z_29 u _ k
      by_cases hc7 : x3 ≤ r_31
      · have k := k.1 hc7
        obtain ⟨rv, v9, hK, hle_u_30, w9⟩ := hE73 x4 u_30 k
        have hle_u : x_le u v9 := (hM5.1).tr hle_u_30
        refine ⟨rv, v9, hK, hle_u, ?_⟩
        intro p e s m args below meth c A H locs ls F hw hl
        obtain ⟨⟨hx, hb, hml, hown, hts⟩, hr, hlocks, hmn⟩ := id F
        refine lv_iload hx hb d_D_takeTurns_26 (lv_at hl 4 rfl) ?_
        refine lv_if_le (tgt := 73) hx hb d_D_takeTurns_28 (by decide) (fun c9 => absurd c9 hc1) (fun _ => ?_)
        refine lv_aload_n hx hb d_D_takeTurns_31 rfl (lv_at hl 0 rfl) ?_
        refine xr_get hx hb hts (xmu uws_D) hown hw h2 rfl (by decide) (hts _ (xm w_192)) (fun _ h9 => h9) d_D_takeTurns_32 ?_
        refine lv_aload_n hx hb d_D_takeTurns_35 rfl (lv_at hl 0 rfl) ?_
        refine xr_get hx hb hts (xmu uws_D) hown hw h3 rfl (by decide) (hts _ (xm w_200)) (fun _ h9 => h9) d_D_takeTurns_36 ?_
        refine lv_iload hx hb d_D_takeTurns_39 (lv_at hl 4 rfl) ?_
        refine lv_iconst (v := 1) hx hb d_D_takeTurns_41 (by decide) ?_
        refine lv_isub hx hb d_D_takeTurns_42 ?_
        refine xr_iald hx hb hw h4 d_D_takeTurns_43 ?_
        refine xr_cV (As := [.int z_29]) (rest := []) ⟨hx, hb, hml, hown, hts⟩ hw hM5 hle_u_30 (fun _ _ => ⟨callB_of 1 hts (xgood w_395) rfl rfl rfl (hts _ (xm w_4)) (hts _ (xm w_392)) ⟨by decide, by decide, by decide +kernel⟩ ⟨Nat.le_of_ble_eq_true rfl, Nat.le_of_ble_eq_true rfl⟩, (hts _ (xm w_393)), (hts _ (xm w_394))⟩) (qc := (R_N, F_N, 13)) rfl rfl h6 rfl hl.1 rfl (Nat.le_of_ble_eq_true rfl) d_D_takeTurns_44 (fun H locs hw => ?_)
        refine W.eq (g2 := F0 m 47 ls [.int r_31]) rfl ?_
        refine lv_iload_n hx hb d_D_takeTurns_47 rfl (lv_at hl 3 rfl) ?_
        refine lv_icmp_ge (tgt := 73) hx hb d_D_takeTurns_48 (by decide) (fun _ => ?_) (fun c9 => absurd hc7 c9)
        exact w9 p e s m args below meth c A H locs ls F hw (lv_sub hl [0, 1, 2, 4] rfl)
      · have k := k.2 hc7
        obtain ⟨z_32, h8, k⟩ := k
        obtain ⟨z_33, h9, k⟩ := k
        obtain ⟨z_34, h10, k⟩ := k
        obtain ⟨u_35, h11, k⟩ := k
        obtain ⟨y12, ey12⟩ : ∃ y9 : Int32, y9 = x4 + (-1) := ⟨_, rfl⟩
        have k := k y12 ey12
        obtain ⟨rv, v9, hK, hle_u_35, w9⟩ := ih y12 u_35 k
        have hle_u_30 : x_le u_30 v9 := (h11.le).tr hle_u_35
        have hle_u : x_le u v9 := (hM5.1).tr hle_u_30
        refine ⟨rv, v9, hK, hle_u, ?_⟩
        intro p e s m args below meth c A H locs ls F hw hl
        obtain ⟨⟨hx, hb, hml, hown, hts⟩, hr, hlocks, hmn⟩ := id F
        refine lv_iload hx hb d_D_takeTurns_26 (lv_at hl 4 rfl) ?_
        refine lv_if_le (tgt := 73) hx hb d_D_takeTurns_28 (by decide) (fun c9 => absurd c9 hc1) (fun _ => ?_)
        refine lv_aload_n hx hb d_D_takeTurns_31 rfl (lv_at hl 0 rfl) ?_
        refine xr_get hx hb hts (xmu uws_D) hown hw h2 rfl (by decide) (hts _ (xm w_192)) (fun _ h9 => h9) d_D_takeTurns_32 ?_
        refine lv_aload_n hx hb d_D_takeTurns_35 rfl (lv_at hl 0 rfl) ?_
        refine xr_get hx hb hts (xmu uws_D) hown hw h3 rfl (by decide) (hts _ (xm w_200)) (fun _ h9 => h9) d_D_takeTurns_36 ?_
        refine lv_iload hx hb d_D_takeTurns_39 (lv_at hl 4 rfl) ?_
        refine lv_iconst (v := 1) hx hb d_D_takeTurns_41 (by decide) ?_
        refine lv_isub hx hb d_D_takeTurns_42 ?_
        refine xr_iald hx hb hw h4 d_D_takeTurns_43 ?_
        refine xr_cV (As := [.int z_29]) (rest := []) ⟨hx, hb, hml, hown, hts⟩ hw hM5 hle_u_30 (fun _ _ => ⟨callB_of 1 hts (xgood w_395) rfl rfl rfl (hts _ (xm w_4)) (hts _ (xm w_392)) ⟨by decide, by decide, by decide +kernel⟩ ⟨Nat.le_of_ble_eq_true rfl, Nat.le_of_ble_eq_true rfl⟩, (hts _ (xm w_393)), (hts _ (xm w_394))⟩) (qc := (R_N, F_N, 13)) rfl rfl h6 rfl hl.1 rfl (Nat.le_of_ble_eq_true rfl) d_D_takeTurns_44 (fun H locs hw => ?_)
        refine W.eq (g2 := F0 m 47 ls [.int r_31]) rfl ?_
        refine lv_iload_n hx hb d_D_takeTurns_47 rfl (lv_at hl 3 rfl) ?_
        refine lv_icmp_ge (tgt := 73) hx hb d_D_takeTurns_48 (by decide) (fun c9 => absurd c9 hc7) (fun _ => ?_)
        refine lv_aload_n hx hb d_D_takeTurns_51 rfl (lv_at hl 0 rfl) ?_
        refine xr_get hx hb hts (xmu uws_D) hown hw h8 rfl (by decide) (hts _ (xm w_200)) (fun _ h9 => h9) d_D_takeTurns_52 ?_
        refine lv_iload hx hb d_D_takeTurns_55 (lv_at hl 4 rfl) ?_
        refine lv_aload_n hx hb d_D_takeTurns_57 rfl (lv_at hl 0 rfl) ?_
        refine xr_get hx hb hts (xmu uws_D) hown hw h9 rfl (by decide) (hts _ (xm w_200)) (fun _ h9 => h9) d_D_takeTurns_58 ?_
        refine lv_iload hx hb d_D_takeTurns_61 (lv_at hl 4 rfl) ?_
        refine lv_iconst (v := 1) hx hb d_D_takeTurns_63 (by decide) ?_
        refine lv_isub hx hb d_D_takeTurns_64 ?_
        refine xr_iald hx hb hw h10 d_D_takeTurns_65 ?_
        refine xr_iast hx hb hw h11 d_D_takeTurns_66 (fun H locs hw => ?_)
        refine lv_iinc (v := y12) (lv' := [(4, .int y12), (0, .ref x0), (1, .int x1), (2, .int x2), (3, .int x3)]) hx hb d_D_takeTurns_67 hl (k := 4) rfl (by subst ey12; rfl) (by decide) rfl (fun ls hl => ?_)
        refine lv_goto (tgt := 26) hx hb d_D_takeTurns_70 (by decide) ?_
        exact w9 p e s m args below meth c A H locs ls F hw (lv_sub hl [1, 2, 3, 4, 0] rfl)
set_option maxRecDepth 100000 in
set_option maxHeartbeats 4000000 in
theorem t_D_takeTurns_J73 (l : Launch) (Z : XZ) (u0 : PS) {Kv : Option Value → PS → Prop} {R : Int32 → Int32 → PS → Prop} {E90 : Int32 → PS → Prop} (x0 : Nat) (x1 : Int32) (x2 : Int32) (x4 : Int32) (u : PS) (hR : ∀ (y1 : Int32) (y2 : Int32) (v : PS), R y1 y2 v → XN l Z i_D_takeTurns u0 Kv v 4 [(0, .ref x0), (1, .int y1), (2, .int y2)] []) (hE90 : ∀ (y1 : Int32) (v : PS), E90 y1 v → XN l Z i_D_takeTurns u0 Kv v 90 [(1, .int y1)] []) (k : (p_D_takeTurns_J73 R E90 x0 x1 x2 x4 u)) : XN l Z i_D_takeTurns u0 Kv u 73 [(0, .ref x0), (1, .int x1), (2, .int x2), (4, .int x4)] [] := by
  unfold p_D_takeTurns_J73 at k
  obtain ⟨z_36, h1, k⟩ := k
  obtain ⟨u_37, h2, k⟩ := k
  obtain ⟨y3, ey3⟩ : ∃ y9 : Int32, y9 = x1 + 1 := ⟨_, rfl⟩
  have k := k y3 ey3
  obtain ⟨rv, v9, hK, hle_u_37, w9⟩ := t_D_takeTurns_J84 l Z u0 x0 y3 x2 u_37 hR hE90 k
  have hle_u : x_le u v9 := (h2.le).tr hle_u_37
  refine ⟨rv, v9, hK, hle_u, ?_⟩
  intro p e s m args below meth c A H locs ls F hw hl
  obtain ⟨⟨hx, hb, hml, hown, hts⟩, hr, hlocks, hmn⟩ := id F
  refine lv_aload_n hx hb d_D_takeTurns_73 rfl (lv_at hl 0 rfl) ?_
  refine xr_get hx hb hts (xmu uws_D) hown hw h1 rfl (by decide) (hts _ (xm w_200)) (fun _ h9 => h9) d_D_takeTurns_74 ?_
  refine lv_iload hx hb d_D_takeTurns_77 (lv_at hl 3 rfl) ?_
  refine lv_iload_n hx hb d_D_takeTurns_79 rfl (lv_at hl 2 rfl) ?_
  refine xr_iast hx hb hw h2 d_D_takeTurns_80 (fun H locs hw => ?_)
  refine lv_iinc (v := y3) (lv' := [(1, .int y3), (0, .ref x0), (2, .int x2), (4, .int x4)]) hx hb d_D_takeTurns_81 hl (k := 1) rfl (by subst ey3; rfl) (by decide) rfl (fun ls hl => ?_)
  exact w9 p e s m args below meth c A H locs ls F hw (lv_sub hl [1, 0, 2] rfl)
set_option maxRecDepth 100000 in
set_option maxHeartbeats 4000000 in
theorem t_D_takeTurns_L4 (l : Launch) (Z : XZ) (u0 : PS) {Kv : Option Value → PS → Prop} {E90 : Int32 → PS → Prop} (x0 : Nat) (hE90 : ∀ (y1 : Int32) (v : PS), E90 y1 v → XN l Z i_D_takeTurns u0 Kv v 90 [(1, .int y1)] []) : ∀ (n : Nat) (x1 : Int32) (x2 : Int32) (u : PS), p_D_takeTurns_L4 x0 E90 n x1 x2 u → XN l Z i_D_takeTurns u0 Kv u 4 [(0, .ref x0), (1, .int x1), (2, .int x2)] [] := by
  intro n
  induction n with
  | zero => intro x1 x2 u k; exact False.elim k
  | succ n ih =>
    intro x1 x2 u k
    rw [p_D_takeTurns_L4] at k
    by_cases hc1 : 10 ≤ x2
    · have k := k.1 hc1
      obtain ⟨rv, v9, hK, hle_u, w9⟩ := hE90 x1 u k
      refine ⟨rv, v9, hK, hle_u, ?_⟩
      intro p e s m args below meth c A H locs ls F hw hl
      obtain ⟨⟨hx, hb, hml, hown, hts⟩, hr, hlocks, hmn⟩ := id F
      refine lv_iload_n hx hb d_D_takeTurns_4 rfl (lv_at hl 2 rfl) ?_
      refine lv_bipush (v := 10) hx hb d_D_takeTurns_5 (by decide) ?_
      refine lv_icmp_ge (tgt := 90) hx hb d_D_takeTurns_7 (by decide) (fun _ => ?_) (fun c9 => absurd hc1 c9)
      exact w9 p e s m args below meth c A H locs ls F hw (lv_sub hl [1] rfl)
    · have k := k.2 hc1
      obtain ⟨z_24, h2, k⟩ := k
      obtain ⟨h4, k⟩ := k
      obtain ⟨_, u_25, ⟨r_26, rfl, k⟩, hM3⟩ := c_N_asksFor l Z z_24 x2 u _ k
      by_cases hc5 : r_26 ≤ 0
      · have k := k.1 hc5
        obtain ⟨rv, v9, hK, hle_u_25, w9⟩ := t_D_takeTurns_J84 l Z u0 x0 x1 x2 u_25 ih hE90 k
        have hle_u : x_le u v9 := (hM3.1).tr hle_u_25
        refine ⟨rv, v9, hK, hle_u, ?_⟩
        intro p e s m args below meth c A H locs ls F hw hl
        obtain ⟨⟨hx, hb, hml, hown, hts⟩, hr, hlocks, hmn⟩ := id F
        refine lv_iload_n hx hb d_D_takeTurns_4 rfl (lv_at hl 2 rfl) ?_
        refine lv_bipush (v := 10) hx hb d_D_takeTurns_5 (by decide) ?_
        refine lv_icmp_ge (tgt := 90) hx hb d_D_takeTurns_7 (by decide) (fun c9 => absurd c9 hc1) (fun _ => ?_)
        refine lv_aload_n hx hb d_D_takeTurns_10 rfl (lv_at hl 0 rfl) ?_
        refine xr_get hx hb hts (xmu uws_D) hown hw h2 rfl (by decide) (hts _ (xm w_192)) (fun _ h9 => h9) d_D_takeTurns_11 ?_
        refine lv_iload_n hx hb d_D_takeTurns_14 rfl (lv_at hl 2 rfl) ?_
        refine xr_cV (As := [.int x2]) (rest := []) ⟨hx, hb, hml, hown, hts⟩ hw hM3 hle_u_25 (fun _ _ => ⟨callB_of 1 hts (xgood w_395) rfl rfl rfl (hts _ (xm w_4)) (hts _ (xm w_392)) ⟨by decide, by decide, by decide +kernel⟩ ⟨Nat.le_of_ble_eq_true rfl, Nat.le_of_ble_eq_true rfl⟩, (hts _ (xm w_393)), (hts _ (xm w_394))⟩) (qc := (R_N, F_N, 13)) rfl rfl h4 rfl hl.1 rfl (Nat.le_of_ble_eq_true rfl) d_D_takeTurns_15 (fun H locs hw => ?_)
        refine W.eq (g2 := F0 m 18 ls [.int r_26]) rfl ?_
        refine lv_istore_n (lv' := [(3, .int r_26), (0, .ref x0), (1, .int x1), (2, .int x2)]) hx hb d_D_takeTurns_18 rfl hl (by decide) rfl (fun ls hl => ?_)
        refine lv_iload_n hx hb d_D_takeTurns_19 rfl (lv_at hl 0 rfl) ?_
        refine lv_if_le (tgt := 84) hx hb d_D_takeTurns_20 (by decide) (fun _ => ?_) (fun c9 => absurd hc5 c9)
        exact w9 p e s m args below meth c A H locs ls F hw (lv_sub hl [1, 2, 3] rfl)
      · have k := k.2 hc5
        obtain ⟨n6, k⟩ := k
        have hx9 : ∀ (y4_7 : Int32) (v8 : PS), (p_D_takeTurns_J73 (p_D_takeTurns_L4 x0 E90 n) E90 x0 x1 x2 y4_7 v8) → XN l Z i_D_takeTurns u0 Kv v8 73 [(0, .ref x0), (1, .int x1), (2, .int x2), (4, .int y4_7)] [] := by
          intro y4_7 v8 k
          obtain ⟨rv, v9, hK, hle_v8, w9⟩ := t_D_takeTurns_J73 l Z u0 x0 x1 x2 y4_7 v8 ih hE90 k
          refine ⟨rv, v9, hK, hle_v8, ?_⟩
          intro p e s m args below meth c A H locs ls F hw hl
          obtain ⟨⟨hx, hb, hml, hown, hts⟩, hr, hlocks, hmn⟩ := id F
          exact w9 p e s m args below meth c A H locs ls F hw (lv_sub hl [0, 1, 2, 3] rfl)
        obtain ⟨rv, v9, hK, hle_u_25, w9⟩ := t_D_takeTurns_L26 l Z u0 x0 x1 x2 r_26 hx9 n6 x1 u_25 k
        have hle_u : x_le u v9 := (hM3.1).tr hle_u_25
        refine ⟨rv, v9, hK, hle_u, ?_⟩
        intro p e s m args below meth c A H locs ls F hw hl
        obtain ⟨⟨hx, hb, hml, hown, hts⟩, hr, hlocks, hmn⟩ := id F
        refine lv_iload_n hx hb d_D_takeTurns_4 rfl (lv_at hl 2 rfl) ?_
        refine lv_bipush (v := 10) hx hb d_D_takeTurns_5 (by decide) ?_
        refine lv_icmp_ge (tgt := 90) hx hb d_D_takeTurns_7 (by decide) (fun c9 => absurd c9 hc1) (fun _ => ?_)
        refine lv_aload_n hx hb d_D_takeTurns_10 rfl (lv_at hl 0 rfl) ?_
        refine xr_get hx hb hts (xmu uws_D) hown hw h2 rfl (by decide) (hts _ (xm w_192)) (fun _ h9 => h9) d_D_takeTurns_11 ?_
        refine lv_iload_n hx hb d_D_takeTurns_14 rfl (lv_at hl 2 rfl) ?_
        refine xr_cV (As := [.int x2]) (rest := []) ⟨hx, hb, hml, hown, hts⟩ hw hM3 hle_u_25 (fun _ _ => ⟨callB_of 1 hts (xgood w_395) rfl rfl rfl (hts _ (xm w_4)) (hts _ (xm w_392)) ⟨by decide, by decide, by decide +kernel⟩ ⟨Nat.le_of_ble_eq_true rfl, Nat.le_of_ble_eq_true rfl⟩, (hts _ (xm w_393)), (hts _ (xm w_394))⟩) (qc := (R_N, F_N, 13)) rfl rfl h4 rfl hl.1 rfl (Nat.le_of_ble_eq_true rfl) d_D_takeTurns_15 (fun H locs hw => ?_)
        refine W.eq (g2 := F0 m 18 ls [.int r_26]) rfl ?_
        refine lv_istore_n (lv' := [(3, .int r_26), (0, .ref x0), (1, .int x1), (2, .int x2)]) hx hb d_D_takeTurns_18 rfl hl (by decide) rfl (fun ls hl => ?_)
        refine lv_iload_n hx hb d_D_takeTurns_19 rfl (lv_at hl 0 rfl) ?_
        refine lv_if_le (tgt := 84) hx hb d_D_takeTurns_20 (by decide) (fun c9 => absurd c9 hc5) (fun _ => ?_)
        refine lv_iload_n hx hb d_D_takeTurns_23 rfl (lv_at hl 2 rfl) ?_
        refine lv_istore (lv' := [(4, .int x1), (3, .int r_26), (0, .ref x0), (1, .int x1), (2, .int x2)]) hx hb d_D_takeTurns_24 hl (by decide) rfl (fun ls hl => ?_)
        exact w9 p e s m args below meth c A H locs ls F hw (lv_sub hl [2, 3, 4, 1, 0] rfl)
set_option maxRecDepth 100000 in
set_option maxHeartbeats 4000000 in
theorem c_D_takeTurns (l : Launch) (Z : XZ) (x0 : Nat) (u : PS) (K : Int32 → PS → Prop) (k : p_D_takeTurns x0 u K) : ∃ (rv : Option Value) (u1 : PS), (kI K) rv u1 ∧ XMet l Z i_D_takeTurns [.ref x0] u rv u1 := by
  refine x_met (by decide) rfl (Nat.le_of_ble_eq_true rfl) ?_
  show XN l Z i_D_takeTurns u (kI K) u 0 [(0, .ref x0)] []
  unfold p_D_takeTurns at k
  obtain ⟨n1, k⟩ := k
  have hx4 : ∀ (y1_2 : Int32) (v3 : PS), (K y1_2 v3) → XN l Z i_D_takeTurns u (kI K) v3 90 [(1, .int y1_2)] [] := by
    intro y1_2 v3 k
    have hle_v3 : x_le v3 v3 := x_le.rf v3
    refine ⟨some (.int y1_2), v3, ⟨y1_2, rfl, k⟩, hle_v3, ?_⟩
    intro p e s m args below meth c A H locs ls F hw hl
    obtain ⟨⟨hx, hb, hml, hown, hts⟩, hr, hlocks, hmn⟩ := id F
    refine lv_iload_n hx hb d_D_takeTurns_90 rfl (lv_at hl 0 rfl) ?_
    exact xr_iret F rfl hw d_D_takeTurns_91
  obtain ⟨rv, v9, hK, hle_u, w9⟩ := t_D_takeTurns_L4 l Z u x0 hx4 n1 (0 : Int32) (0 : Int32) u k
  refine ⟨rv, v9, hK, hle_u, ?_⟩
  intro p e s m args below meth c A H locs ls F hw hl
  obtain ⟨⟨hx, hb, hml, hown, hts⟩, hr, hlocks, hmn⟩ := id F
  refine lv_iconst (v := 0) hx hb d_D_takeTurns_0 (by decide) ?_
  refine lv_istore_n (lv' := [(1, .int 0), (0, .ref x0)]) hx hb d_D_takeTurns_1 rfl hl (by decide) rfl (fun ls hl => ?_)
  refine lv_iconst (v := 0) hx hb d_D_takeTurns_2 (by decide) ?_
  refine lv_istore_n (lv' := [(2, .int 0), (1, .int 0), (0, .ref x0)]) hx hb d_D_takeTurns_3 rfl hl (by decide) rfl (fun ls hl => ?_)
  exact w9 p e s m args below meth c A H locs ls F hw (lv_sub hl [2, 1, 0] rfl)
set_option maxRecDepth 100000 in
set_option maxHeartbeats 4000000 in
theorem c_D_inputWithTurn (l : Launch) (Z : XZ) (x0 : Nat) (x1 : Int32) (u : PS) (K : Int32 → PS → Prop) (k : p_D_inputWithTurn x0 x1 u K) : ∃ (rv : Option Value) (u1 : PS), (kI K) rv u1 ∧ XMet l Z i_D_inputWithTurn [.ref x0, .int x1] u rv u1 := by
  refine x_met (by decide) rfl (Nat.le_of_ble_eq_true rfl) ?_
  show XN l Z i_D_inputWithTurn u (kI K) u 0 [(0, .ref x0), (1, .int x1)] []
  unfold p_D_inputWithTurn at k
  obtain ⟨z_3, h1, k⟩ := k
  obtain ⟨z_4, h2, k⟩ := k
  have hle_u : x_le u u := x_le.rf u
  refine ⟨some (.int z_4), u, ⟨z_4, rfl, k⟩, hle_u, ?_⟩
  intro p e s m args below meth c A H locs ls F hw hl
  obtain ⟨⟨hx, hb, hml, hown, hts⟩, hr, hlocks, hmn⟩ := id F
  refine lv_aload_n hx hb d_D_inputWithTurn_0 rfl (lv_at hl 0 rfl) ?_
  refine xr_get hx hb hts (xmu uws_D) hown hw h1 rfl (by decide) (hts _ (xm w_200)) (fun _ h9 => h9) d_D_inputWithTurn_1 ?_
  refine lv_iload_n hx hb d_D_inputWithTurn_4 rfl (lv_at hl 1 rfl) ?_
  refine xr_iald hx hb hw h2 d_D_inputWithTurn_5 ?_
  exact xr_iret F rfl hw d_D_inputWithTurn_6
set_option maxRecDepth 100000 in
set_option maxHeartbeats 4000000 in
theorem t_D_settleUnused_J30 (l : Launch) (Z : XZ) (u0 : PS) {Kv : Option Value → PS → Prop} {R : Int32 → Int32 → PS → Prop} {E36 : Int32 → PS → Prop} (x0 : Nat) (x1 : Int32) (x2 : Int32) (u : PS) (hR : ∀ (y1 : Int32) (y2 : Int32) (v : PS), R y1 y2 v → XN l Z i_D_settleUnused u0 Kv v 5 [(0, .ref x0), (1, .int y1), (2, .int y2)] []) (hE36 : ∀ (y1 : Int32) (v : PS), E36 y1 v → XN l Z i_D_settleUnused u0 Kv v 36 [(0, .ref x0), (1, .int y1)] []) (k : (p_D_settleUnused_J30 R E36 x0 x1 x2 u)) : XN l Z i_D_settleUnused u0 Kv u 30 [(0, .ref x0), (1, .int x1), (2, .int x2)] [] := by
  unfold p_D_settleUnused_J30 at k
  obtain ⟨y1, ey1⟩ : ∃ y9 : Int32, y9 = x2 + (-1) := ⟨_, rfl⟩
  have k := k y1 ey1
  obtain ⟨rv, v9, hK, hle_u, w9⟩ := hR x1 y1 u k
  refine ⟨rv, v9, hK, hle_u, ?_⟩
  intro p e s m args below meth c A H locs ls F hw hl
  obtain ⟨⟨hx, hb, hml, hown, hts⟩, hr, hlocks, hmn⟩ := id F
  refine lv_iinc (v := y1) (lv' := [(2, .int y1), (0, .ref x0), (1, .int x1)]) hx hb d_D_settleUnused_30 hl (k := 2) rfl (by subst ey1; rfl) (by decide) rfl (fun ls hl => ?_)
  refine lv_goto (tgt := 5) hx hb d_D_settleUnused_33 (by decide) ?_
  exact w9 p e s m args below meth c A H locs ls F hw (lv_sub hl [1, 2, 0] rfl)
set_option maxRecDepth 100000 in
set_option maxHeartbeats 4000000 in
theorem t_D_settleUnused_L5 (l : Launch) (Z : XZ) (u0 : PS) {Kv : Option Value → PS → Prop} {E36 : Int32 → PS → Prop} (x0 : Nat) (hE36 : ∀ (y1 : Int32) (v : PS), E36 y1 v → XN l Z i_D_settleUnused u0 Kv v 36 [(0, .ref x0), (1, .int y1)] []) : ∀ (n : Nat) (x1 : Int32) (x2 : Int32) (u : PS), p_D_settleUnused_L5 x0 E36 n x1 x2 u → XN l Z i_D_settleUnused u0 Kv u 5 [(0, .ref x0), (1, .int x1), (2, .int x2)] [] := by
  intro n
  induction n with
  | zero => intro x1 x2 u k; exact False.elim k
  | succ n ih =>
    intro x1 x2 u k
    rw [p_D_settleUnused_L5] at k
    by_cases hc1 : x2 < 0
    · have k := k.1 hc1
      obtain ⟨rv, v9, hK, hle_u, w9⟩ := hE36 x1 u k
      refine ⟨rv, v9, hK, hle_u, ?_⟩
      intro p e s m args below meth c A H locs ls F hw hl
      obtain ⟨⟨hx, hb, hml, hown, hts⟩, hr, hlocks, hmn⟩ := id F
      refine lv_iload_n hx hb d_D_settleUnused_5 rfl (lv_at hl 2 rfl) ?_
      refine lv_if_lt (tgt := 36) hx hb d_D_settleUnused_6 (by decide) (fun _ => ?_) (fun c9 => absurd hc1 c9)
      exact w9 p e s m args below meth c A H locs ls F hw (lv_sub hl [0, 1] rfl)
    · have k := k.2 hc1
      obtain ⟨z_27, h2, k⟩ := k
      obtain ⟨h4, k⟩ := k
      obtain ⟨_, u_28, ⟨r_29, rfl, k⟩, hM3⟩ := c_N_asksFor l Z z_27 x2 u _ k
      by_cases hc5 : r_29 = 0
      · have k := k.2 hc5
        obtain ⟨z_30, h6, k⟩ := k
        obtain ⟨u_31, h7, k⟩ := k
        obtain ⟨y8, ey8⟩ : ∃ y9 : Int32, y9 = x1 + 1 := ⟨_, rfl⟩
        have k := k y8 ey8
        obtain ⟨rv, v9, hK, hle_u_31, w9⟩ := t_D_settleUnused_J30 l Z u0 x0 y8 x2 u_31 ih hE36 k
        have hle_u_28 : x_le u_28 v9 := (h7.le).tr hle_u_31
        have hle_u : x_le u v9 := (hM3.1).tr hle_u_28
        refine ⟨rv, v9, hK, hle_u, ?_⟩
        intro p e s m args below meth c A H locs ls F hw hl
        obtain ⟨⟨hx, hb, hml, hown, hts⟩, hr, hlocks, hmn⟩ := id F
        refine lv_iload_n hx hb d_D_settleUnused_5 rfl (lv_at hl 2 rfl) ?_
        refine lv_if_lt (tgt := 36) hx hb d_D_settleUnused_6 (by decide) (fun c9 => absurd c9 hc1) (fun _ => ?_)
        refine lv_aload_n hx hb d_D_settleUnused_9 rfl (lv_at hl 0 rfl) ?_
        refine xr_get hx hb hts (xmu uws_D) hown hw h2 rfl (by decide) (hts _ (xm w_192)) (fun _ h9 => h9) d_D_settleUnused_10 ?_
        refine lv_iload_n hx hb d_D_settleUnused_13 rfl (lv_at hl 2 rfl) ?_
        refine xr_cV (As := [.int x2]) (rest := []) ⟨hx, hb, hml, hown, hts⟩ hw hM3 hle_u_28 (fun _ _ => ⟨callB_of 1 hts (xgood w_395) rfl rfl rfl (hts _ (xm w_4)) (hts _ (xm w_392)) ⟨by decide, by decide, by decide +kernel⟩ ⟨Nat.le_of_ble_eq_true rfl, Nat.le_of_ble_eq_true rfl⟩, (hts _ (xm w_393)), (hts _ (xm w_394))⟩) (qc := (R_N, F_N, 13)) rfl rfl h4 rfl hl.1 rfl (Nat.le_of_ble_eq_true rfl) d_D_settleUnused_14 (fun H locs hw => ?_)
        refine W.eq (g2 := F0 m 17 ls [.int r_29]) rfl ?_
        refine lv_if_ne (tgt := 30) hx hb d_D_settleUnused_17 (by decide) (fun c9 => absurd hc5 c9) (fun _ => ?_)
        refine lv_aload_n hx hb d_D_settleUnused_20 rfl (lv_at hl 0 rfl) ?_
        refine xr_get hx hb hts (xmu uws_D) hown hw h6 rfl (by decide) (hts _ (xm w_200)) (fun _ h9 => h9) d_D_settleUnused_21 ?_
        refine lv_iload_n hx hb d_D_settleUnused_24 rfl (lv_at hl 1 rfl) ?_
        refine lv_iload_n hx hb d_D_settleUnused_25 rfl (lv_at hl 2 rfl) ?_
        refine xr_iast hx hb hw h7 d_D_settleUnused_26 (fun H locs hw => ?_)
        refine lv_iinc (v := y8) (lv' := [(1, .int y8), (0, .ref x0), (2, .int x2)]) hx hb d_D_settleUnused_27 hl (k := 1) rfl (by subst ey8; rfl) (by decide) rfl (fun ls hl => ?_)
        exact w9 p e s m args below meth c A H locs ls F hw (lv_sub hl [1, 0, 2] rfl)
      · have k := k.1 hc5
        obtain ⟨rv, v9, hK, hle_u_28, w9⟩ := t_D_settleUnused_J30 l Z u0 x0 x1 x2 u_28 ih hE36 k
        have hle_u : x_le u v9 := (hM3.1).tr hle_u_28
        refine ⟨rv, v9, hK, hle_u, ?_⟩
        intro p e s m args below meth c A H locs ls F hw hl
        obtain ⟨⟨hx, hb, hml, hown, hts⟩, hr, hlocks, hmn⟩ := id F
        refine lv_iload_n hx hb d_D_settleUnused_5 rfl (lv_at hl 2 rfl) ?_
        refine lv_if_lt (tgt := 36) hx hb d_D_settleUnused_6 (by decide) (fun c9 => absurd c9 hc1) (fun _ => ?_)
        refine lv_aload_n hx hb d_D_settleUnused_9 rfl (lv_at hl 0 rfl) ?_
        refine xr_get hx hb hts (xmu uws_D) hown hw h2 rfl (by decide) (hts _ (xm w_192)) (fun _ h9 => h9) d_D_settleUnused_10 ?_
        refine lv_iload_n hx hb d_D_settleUnused_13 rfl (lv_at hl 2 rfl) ?_
        refine xr_cV (As := [.int x2]) (rest := []) ⟨hx, hb, hml, hown, hts⟩ hw hM3 hle_u_28 (fun _ _ => ⟨callB_of 1 hts (xgood w_395) rfl rfl rfl (hts _ (xm w_4)) (hts _ (xm w_392)) ⟨by decide, by decide, by decide +kernel⟩ ⟨Nat.le_of_ble_eq_true rfl, Nat.le_of_ble_eq_true rfl⟩, (hts _ (xm w_393)), (hts _ (xm w_394))⟩) (qc := (R_N, F_N, 13)) rfl rfl h4 rfl hl.1 rfl (Nat.le_of_ble_eq_true rfl) d_D_settleUnused_14 (fun H locs hw => ?_)
        refine W.eq (g2 := F0 m 17 ls [.int r_29]) rfl ?_
        refine lv_if_ne (tgt := 30) hx hb d_D_settleUnused_17 (by decide) (fun _ => ?_) (fun c9 => absurd c9 hc5)
        exact w9 p e s m args below meth c A H locs ls F hw (lv_sub hl [0, 1, 2] rfl)
set_option maxRecDepth 100000 in
set_option maxHeartbeats 4000000 in
theorem t_D_settleUnused_J75 (l : Launch) (Z : XZ) (u0 : PS) {Kv : Option Value → PS → Prop} {R : Int32 → Int32 → PS → Prop} {E81 : PS → Prop} (x0 : Nat) (x1 : Int32) (x2 : Int32) (u : PS) (hR : ∀ (y1 : Int32) (y2 : Int32) (v : PS), R y1 y2 v → XN l Z i_D_settleUnused u0 Kv v 38 [(0, .ref x0), (1, .int y1), (2, .int y2)] []) (hE81 : ∀ (v : PS), E81 v → XN l Z i_D_settleUnused u0 Kv v 81 [(0, .ref x0)] []) (k : (p_D_settleUnused_J75 R E81 x0 x1 x2 u)) : XN l Z i_D_settleUnused u0 Kv u 75 [(0, .ref x0), (1, .int x1), (2, .int x2)] [] := by
  unfold p_D_settleUnused_J75 at k
  obtain ⟨y1, ey1⟩ : ∃ y9 : Int32, y9 = x2 + 1 := ⟨_, rfl⟩
  have k := k y1 ey1
  obtain ⟨rv, v9, hK, hle_u, w9⟩ := hR x1 y1 u k
  refine ⟨rv, v9, hK, hle_u, ?_⟩
  intro p e s m args below meth c A H locs ls F hw hl
  obtain ⟨⟨hx, hb, hml, hown, hts⟩, hr, hlocks, hmn⟩ := id F
  refine lv_iinc (v := y1) (lv' := [(2, .int y1), (0, .ref x0), (1, .int x1)]) hx hb d_D_settleUnused_75 hl (k := 2) rfl (by subst ey1; rfl) (by decide) rfl (fun ls hl => ?_)
  refine lv_goto (tgt := 38) hx hb d_D_settleUnused_78 (by decide) ?_
  exact w9 p e s m args below meth c A H locs ls F hw (lv_sub hl [1, 2, 0] rfl)
set_option maxRecDepth 100000 in
set_option maxHeartbeats 4000000 in
theorem t_D_settleUnused_L38 (l : Launch) (Z : XZ) (u0 : PS) {Kv : Option Value → PS → Prop} {E81 : PS → Prop} (x0 : Nat) (hE81 : ∀ (v : PS), E81 v → XN l Z i_D_settleUnused u0 Kv v 81 [(0, .ref x0)] []) : ∀ (n : Nat) (x1 : Int32) (x2 : Int32) (u : PS), p_D_settleUnused_L38 x0 E81 n x1 x2 u → XN l Z i_D_settleUnused u0 Kv u 38 [(0, .ref x0), (1, .int x1), (2, .int x2)] [] := by
  intro n
  induction n with
  | zero => intro x1 x2 u k; exact False.elim k
  | succ n ih =>
    intro x1 x2 u k
    rw [p_D_settleUnused_L38] at k
    by_cases hc1 : 10 ≤ x2
    · have k := k.1 hc1
      obtain ⟨rv, v9, hK, hle_u, w9⟩ := hE81 u k
      refine ⟨rv, v9, hK, hle_u, ?_⟩
      intro p e s m args below meth c A H locs ls F hw hl
      obtain ⟨⟨hx, hb, hml, hown, hts⟩, hr, hlocks, hmn⟩ := id F
      refine lv_iload_n hx hb d_D_settleUnused_38 rfl (lv_at hl 2 rfl) ?_
      refine lv_bipush (v := 10) hx hb d_D_settleUnused_39 (by decide) ?_
      refine lv_icmp_ge (tgt := 81) hx hb d_D_settleUnused_41 (by decide) (fun _ => ?_) (fun c9 => absurd hc1 c9)
      exact w9 p e s m args below meth c A H locs ls F hw (lv_sub hl [0] rfl)
    · have k := k.2 hc1
      obtain ⟨z_32, h2, k⟩ := k
      obtain ⟨z_33, h3, k⟩ := k
      obtain ⟨z_34, h4, k⟩ := k
      obtain ⟨h6, k⟩ := k
      obtain ⟨_, u_35, ⟨r_36, rfl, k⟩, hM5⟩ := c_N_asksFor l Z z_32 z_34 u _ k
      by_cases hc7 : r_36 ≤ 0
      · have k := k.1 hc7
        obtain ⟨rv, v9, hK, hle_u_35, w9⟩ := t_D_settleUnused_J75 l Z u0 x0 x1 x2 u_35 ih hE81 k
        have hle_u : x_le u v9 := (hM5.1).tr hle_u_35
        refine ⟨rv, v9, hK, hle_u, ?_⟩
        intro p e s m args below meth c A H locs ls F hw hl
        obtain ⟨⟨hx, hb, hml, hown, hts⟩, hr, hlocks, hmn⟩ := id F
        refine lv_iload_n hx hb d_D_settleUnused_38 rfl (lv_at hl 2 rfl) ?_
        refine lv_bipush (v := 10) hx hb d_D_settleUnused_39 (by decide) ?_
        refine lv_icmp_ge (tgt := 81) hx hb d_D_settleUnused_41 (by decide) (fun c9 => absurd c9 hc1) (fun _ => ?_)
        refine lv_aload_n hx hb d_D_settleUnused_44 rfl (lv_at hl 0 rfl) ?_
        refine xr_get hx hb hts (xmu uws_D) hown hw h2 rfl (by decide) (hts _ (xm w_192)) (fun _ h9 => h9) d_D_settleUnused_45 ?_
        refine lv_aload_n hx hb d_D_settleUnused_48 rfl (lv_at hl 0 rfl) ?_
        refine xr_get hx hb hts (xmu uws_D) hown hw h3 rfl (by decide) (hts _ (xm w_195)) (fun _ h9 => h9) d_D_settleUnused_49 ?_
        refine lv_iload_n hx hb d_D_settleUnused_52 rfl (lv_at hl 2 rfl) ?_
        refine xr_iald hx hb hw h4 d_D_settleUnused_53 ?_
        refine xr_cV (As := [.int z_34]) (rest := []) ⟨hx, hb, hml, hown, hts⟩ hw hM5 hle_u_35 (fun _ _ => ⟨callB_of 1 hts (xgood w_395) rfl rfl rfl (hts _ (xm w_4)) (hts _ (xm w_392)) ⟨by decide, by decide, by decide +kernel⟩ ⟨Nat.le_of_ble_eq_true rfl, Nat.le_of_ble_eq_true rfl⟩, (hts _ (xm w_393)), (hts _ (xm w_394))⟩) (qc := (R_N, F_N, 13)) rfl rfl h6 rfl hl.1 rfl (Nat.le_of_ble_eq_true rfl) d_D_settleUnused_54 (fun H locs hw => ?_)
        refine W.eq (g2 := F0 m 57 ls [.int r_36]) rfl ?_
        refine lv_if_le (tgt := 75) hx hb d_D_settleUnused_57 (by decide) (fun _ => ?_) (fun c9 => absurd hc7 c9)
        exact w9 p e s m args below meth c A H locs ls F hw (lv_sub hl [0, 1, 2] rfl)
      · have k := k.2 hc7
        obtain ⟨z_37, h8, k⟩ := k
        obtain ⟨z_38, h9, k⟩ := k
        obtain ⟨z_39, h10, k⟩ := k
        obtain ⟨u_40, h11, k⟩ := k
        obtain ⟨y12, ey12⟩ : ∃ y9 : Int32, y9 = x1 + 1 := ⟨_, rfl⟩
        have k := k y12 ey12
        obtain ⟨rv, v9, hK, hle_u_40, w9⟩ := t_D_settleUnused_J75 l Z u0 x0 y12 x2 u_40 ih hE81 k
        have hle_u_35 : x_le u_35 v9 := (h11.le).tr hle_u_40
        have hle_u : x_le u v9 := (hM5.1).tr hle_u_35
        refine ⟨rv, v9, hK, hle_u, ?_⟩
        intro p e s m args below meth c A H locs ls F hw hl
        obtain ⟨⟨hx, hb, hml, hown, hts⟩, hr, hlocks, hmn⟩ := id F
        refine lv_iload_n hx hb d_D_settleUnused_38 rfl (lv_at hl 2 rfl) ?_
        refine lv_bipush (v := 10) hx hb d_D_settleUnused_39 (by decide) ?_
        refine lv_icmp_ge (tgt := 81) hx hb d_D_settleUnused_41 (by decide) (fun c9 => absurd c9 hc1) (fun _ => ?_)
        refine lv_aload_n hx hb d_D_settleUnused_44 rfl (lv_at hl 0 rfl) ?_
        refine xr_get hx hb hts (xmu uws_D) hown hw h2 rfl (by decide) (hts _ (xm w_192)) (fun _ h9 => h9) d_D_settleUnused_45 ?_
        refine lv_aload_n hx hb d_D_settleUnused_48 rfl (lv_at hl 0 rfl) ?_
        refine xr_get hx hb hts (xmu uws_D) hown hw h3 rfl (by decide) (hts _ (xm w_195)) (fun _ h9 => h9) d_D_settleUnused_49 ?_
        refine lv_iload_n hx hb d_D_settleUnused_52 rfl (lv_at hl 2 rfl) ?_
        refine xr_iald hx hb hw h4 d_D_settleUnused_53 ?_
        refine xr_cV (As := [.int z_34]) (rest := []) ⟨hx, hb, hml, hown, hts⟩ hw hM5 hle_u_35 (fun _ _ => ⟨callB_of 1 hts (xgood w_395) rfl rfl rfl (hts _ (xm w_4)) (hts _ (xm w_392)) ⟨by decide, by decide, by decide +kernel⟩ ⟨Nat.le_of_ble_eq_true rfl, Nat.le_of_ble_eq_true rfl⟩, (hts _ (xm w_393)), (hts _ (xm w_394))⟩) (qc := (R_N, F_N, 13)) rfl rfl h6 rfl hl.1 rfl (Nat.le_of_ble_eq_true rfl) d_D_settleUnused_54 (fun H locs hw => ?_)
        refine W.eq (g2 := F0 m 57 ls [.int r_36]) rfl ?_
        refine lv_if_le (tgt := 75) hx hb d_D_settleUnused_57 (by decide) (fun c9 => absurd c9 hc7) (fun _ => ?_)
        refine lv_aload_n hx hb d_D_settleUnused_60 rfl (lv_at hl 0 rfl) ?_
        refine xr_get hx hb hts (xmu uws_D) hown hw h8 rfl (by decide) (hts _ (xm w_200)) (fun _ h9 => h9) d_D_settleUnused_61 ?_
        refine lv_iload_n hx hb d_D_settleUnused_64 rfl (lv_at hl 1 rfl) ?_
        refine lv_aload_n hx hb d_D_settleUnused_65 rfl (lv_at hl 0 rfl) ?_
        refine xr_get hx hb hts (xmu uws_D) hown hw h9 rfl (by decide) (hts _ (xm w_195)) (fun _ h9 => h9) d_D_settleUnused_66 ?_
        refine lv_iload_n hx hb d_D_settleUnused_69 rfl (lv_at hl 2 rfl) ?_
        refine xr_iald hx hb hw h10 d_D_settleUnused_70 ?_
        refine xr_iast hx hb hw h11 d_D_settleUnused_71 (fun H locs hw => ?_)
        refine lv_iinc (v := y12) (lv' := [(1, .int y12), (0, .ref x0), (2, .int x2)]) hx hb d_D_settleUnused_72 hl (k := 1) rfl (by subst ey12; rfl) (by decide) rfl (fun ls hl => ?_)
        exact w9 p e s m args below meth c A H locs ls F hw (lv_sub hl [1, 0, 2] rfl)
set_option maxRecDepth 100000 in
set_option maxHeartbeats 4000000 in
theorem t_D_settleUnused_J81 (l : Launch) (Z : XZ) (u0 : PS) {K : PS → Prop} (x0 : Nat) (u : PS) (k : (p_D_settleUnused_J81 K x0 u)) : XN l Z i_D_settleUnused u0 (kV K) u 81 [(0, .ref x0)] [] := by
  unfold p_D_settleUnused_J81 at k
  obtain ⟨z_41, h1, k⟩ := k
  obtain ⟨z_42, h2, k⟩ := k
  obtain ⟨u_43, h3, k⟩ := k
  have hle_u_43 : x_le u_43 u_43 := x_le.rf u_43
  have hle_u : x_le u u_43 := (h3.le).tr hle_u_43
  refine ⟨none, u_43, ⟨rfl, k⟩, hle_u, ?_⟩
  intro p e s m args below meth c A H locs ls F hw hl
  obtain ⟨⟨hx, hb, hml, hown, hts⟩, hr, hlocks, hmn⟩ := id F
  refine lv_aload_n hx hb d_D_settleUnused_81 rfl (lv_at hl 0 rfl) ?_
  refine xr_get hx hb hts (xmu uws_D) hown hw h1 rfl (by decide) (hts _ (xm w_200)) (fun _ h9 => h9) d_D_settleUnused_82 ?_
  refine lv_iconst (v := 0) hx hb d_D_settleUnused_85 (by decide) ?_
  refine lv_aload_n hx hb d_D_settleUnused_86 rfl (lv_at hl 0 rfl) ?_
  refine xr_get hx hb hts (xmu uws_D) hown hw h2 rfl (by decide) (hts _ (xm w_195)) (fun _ h9 => h9) d_D_settleUnused_87 ?_
  refine lv_iconst (v := 0) hx hb d_D_settleUnused_90 (by decide) ?_
  refine lv_bipush (v := 10) hx hb d_D_settleUnused_91 (by decide) ?_
  refine xr_copy (rest := []) hx hb (hml.trans hl.1.symm) hown (hts _ (xm w_408)) (hts _ (xm w_307)) (hts _ (xm w_306)) (hts _ (xm w_15)) hw h3 (Nat.le_of_ble_eq_true rfl) (Nat.le_of_ble_eq_true rfl) d_D_settleUnused_93 (fun H locs hw => ?_)
  exact xr_vret F rfl hw d_D_settleUnused_96
set_option maxRecDepth 100000 in
set_option maxHeartbeats 4000000 in
theorem t_D_settleUnused_J36 (l : Launch) (Z : XZ) (u0 : PS) {K : PS → Prop} (x0 : Nat) (x1 : Int32) (u : PS) (k : (p_D_settleUnused_J36 K x0 x1 u)) : XN l Z i_D_settleUnused u0 (kV K) u 36 [(0, .ref x0), (1, .int x1)] [] := by
  unfold p_D_settleUnused_J36 at k
  obtain ⟨n1, k⟩ := k
  have hx3 : ∀ (v2 : PS), (p_D_settleUnused_J81 K x0 v2) → XN l Z i_D_settleUnused u0 (kV K) v2 81 [(0, .ref x0)] [] := by
    intro v2 k
    obtain ⟨rv, v9, hK, hle_v2, w9⟩ := t_D_settleUnused_J81 l Z u0 x0 v2 k
    refine ⟨rv, v9, hK, hle_v2, ?_⟩
    intro p e s m args below meth c A H locs ls F hw hl
    obtain ⟨⟨hx, hb, hml, hown, hts⟩, hr, hlocks, hmn⟩ := id F
    exact w9 p e s m args below meth c A H locs ls F hw (lv_sub hl [0] rfl)
  obtain ⟨rv, v9, hK, hle_u, w9⟩ := t_D_settleUnused_L38 l Z u0 x0 hx3 n1 x1 (0 : Int32) u k
  refine ⟨rv, v9, hK, hle_u, ?_⟩
  intro p e s m args below meth c A H locs ls F hw hl
  obtain ⟨⟨hx, hb, hml, hown, hts⟩, hr, hlocks, hmn⟩ := id F
  refine lv_iconst (v := 0) hx hb d_D_settleUnused_36 (by decide) ?_
  refine lv_istore_n (lv' := [(2, .int 0), (0, .ref x0), (1, .int x1)]) hx hb d_D_settleUnused_37 rfl hl (by decide) rfl (fun ls hl => ?_)
  exact w9 p e s m args below meth c A H locs ls F hw (lv_sub hl [1, 2, 0] rfl)
set_option maxRecDepth 100000 in
set_option maxHeartbeats 4000000 in
theorem c_D_settleUnused (l : Launch) (Z : XZ) (x0 : Nat) (u : PS) (K : PS → Prop) (k : p_D_settleUnused x0 u K) : ∃ (rv : Option Value) (u1 : PS), (kV K) rv u1 ∧ XMet l Z i_D_settleUnused [.ref x0] u rv u1 := by
  refine x_met (by decide) rfl (Nat.le_of_ble_eq_true rfl) ?_
  show XN l Z i_D_settleUnused u (kV K) u 0 [(0, .ref x0)] []
  unfold p_D_settleUnused at k
  obtain ⟨n1, k⟩ := k
  have hx4 : ∀ (y1_2 : Int32) (v3 : PS), (p_D_settleUnused_J36 K x0 y1_2 v3) → XN l Z i_D_settleUnused u (kV K) v3 36 [(0, .ref x0), (1, .int y1_2)] [] := by
    intro y1_2 v3 k
    obtain ⟨rv, v9, hK, hle_v3, w9⟩ := t_D_settleUnused_J36 l Z u x0 y1_2 v3 k
    refine ⟨rv, v9, hK, hle_v3, ?_⟩
    intro p e s m args below meth c A H locs ls F hw hl
    obtain ⟨⟨hx, hb, hml, hown, hts⟩, hr, hlocks, hmn⟩ := id F
    exact w9 p e s m args below meth c A H locs ls F hw (lv_sub hl [0, 1] rfl)
  obtain ⟨rv, v9, hK, hle_u, w9⟩ := t_D_settleUnused_L5 l Z u x0 hx4 n1 (0 : Int32) (9 : Int32) u k
  refine ⟨rv, v9, hK, hle_u, ?_⟩
  intro p e s m args below meth c A H locs ls F hw hl
  obtain ⟨⟨hx, hb, hml, hown, hts⟩, hr, hlocks, hmn⟩ := id F
  refine lv_iconst (v := 0) hx hb d_D_settleUnused_0 (by decide) ?_
  refine lv_istore_n (lv' := [(1, .int 0), (0, .ref x0)]) hx hb d_D_settleUnused_1 rfl hl (by decide) rfl (fun ls hl => ?_)
  refine lv_bipush (v := 9) hx hb d_D_settleUnused_2 (by decide) ?_
  refine lv_istore_n (lv' := [(2, .int 9), (1, .int 0), (0, .ref x0)]) hx hb d_D_settleUnused_4 rfl hl (by decide) rfl (fun ls hl => ?_)
  exact w9 p e s m args below meth c A H locs ls F hw (lv_sub hl [2, 1, 0] rfl)
set_option maxRecDepth 100000 in
set_option maxHeartbeats 4000000 in
theorem c_H_init (l : Launch) (Z : XZ) (x0 : Nat) (u : PS) (K : PS → Prop) (k : p_H_init x0 u K) : ∃ (rv : Option Value) (u1 : PS), (kV K) rv u1 ∧ XMet l Z i_H_init [.ref x0] u rv u1 := by
  refine x_met (by decide) rfl (Nat.le_of_ble_eq_true rfl) ?_
  show XN l Z i_H_init u (kV K) u 0 [(0, .ref x0)] []
  unfold p_H_init at k
  obtain ⟨a_10, u_11, h1, k⟩ := k
  obtain ⟨_, u_12, ⟨rfl, k⟩, hM2⟩ := c_F_init l Z a_10 u_11 _ k
  obtain ⟨u_13, h3, k⟩ := k
  obtain ⟨a_14, u_15, h4, k⟩ := k
  obtain ⟨z_16, h5, k⟩ := k
  obtain ⟨_, u_17, ⟨rfl, k⟩, hM6⟩ := c_D_init l Z a_14 z_16 u_15 _ k
  obtain ⟨u_18, h7, k⟩ := k
  have hle_u_18 : x_le u_18 u_18 := x_le.rf u_18
  have hle_u_17 : x_le u_17 u_18 := (h7.le).tr hle_u_18
  have hle_u_15 : x_le u_15 u_18 := (hM6.1).tr hle_u_17
  have hle_u_13 : x_le u_13 u_18 := (h4.le).tr hle_u_15
  have hle_u_12 : x_le u_12 u_18 := (h3.le).tr hle_u_13
  have hle_u_11 : x_le u_11 u_18 := (hM2.1).tr hle_u_12
  have hle_u : x_le u u_18 := (h1.le).tr hle_u_11
  refine ⟨none, u_18, ⟨rfl, k⟩, hle_u, ?_⟩
  intro p e s m args below meth c A H locs ls F hw hl
  obtain ⟨⟨hx, hb, hml, hown, hts⟩, hr, hlocks, hmn⟩ := id F
  refine lv_aload_n hx hb d_H_init_0 rfl (lv_at hl 0 rfl) ?_
  refine W.objInit hx hb hown (hts _ (xm w_22)) (hts _ (xm w_23)) (hts _ (xm w_24)) rfl (by rw [hml]; exact hl.1) rfl d_H_init_1 (Nat.le_of_ble_eq_true rfl) (Nat.le_of_ble_eq_true rfl) ?_
  refine W.eq (g2 := F0 m 4 ls []) rfl ?_
  refine lv_aload_n hx hb d_H_init_4 rfl (lv_at hl 0 rfl) ?_
  refine xr_new hx hb hts (xmu uws_F) tyc_F tyc_F_ok hown (hts _ (xm w_25)) (hts _ (xm w_26)) (hts _ (xm w_2)) hw rfl rfl bl_F h1 hle_u_11 d_H_init_5 (fun H hw => ?_)
  refine lv_dup hx hb d_H_init_8 rfl ?_
  refine xr_cI (As := []) (rest := [.ref a_10, .ref x0]) ⟨hx, hb, hml, hown, hts⟩ hw hM2 hle_u_12 (fun _ _ => ⟨callB_of 0 hts (xgood w_29) rfl rfl rfl (hts _ (xm w_2)) (hts _ (xm w_27)) ⟨by decide, by decide, by decide +kernel⟩ ⟨Nat.le_of_ble_eq_true rfl, Nat.le_of_ble_eq_true rfl⟩, rfl, (hts _ (xm w_28))⟩) rfl hl.1 rfl (Nat.le_of_ble_eq_true rfl) d_H_init_9 (fun H locs hw => ?_)
  refine xr_putF (ty := .object "DiagramHouse$Functions") hx hb hts (xmu uws_H) tyc_H tyc_H_ok nmc_H hown hw h3 rfl (by decide) (hts _ (xm w_231)) (fun _ h9 => h9) rfl hmn rfl (by decide +kernel) rfl rfl d_H_init_12 (fun H locs hw => ?_)
  refine lv_aload_n hx hb d_H_init_15 rfl (lv_at hl 0 rfl) ?_
  refine xr_new hx hb hts (xmu uws_D) tyc_D tyc_D_ok hown (hts _ (xm w_52)) (hts _ (xm w_53)) (hts _ (xm w_3)) hw rfl rfl bl_D h4 hle_u_15 d_H_init_16 (fun H hw => ?_)
  refine lv_dup hx hb d_H_init_19 rfl ?_
  refine lv_aload_n hx hb d_H_init_20 rfl (lv_at hl 0 rfl) ?_
  refine xr_get hx hb hts (xmu uws_H) hown hw h5 rfl (by decide) (hts _ (xm w_231)) (fun _ h9 => h9) d_H_init_21 ?_
  refine xr_cI (As := [.ref z_16]) (rest := [.ref a_14, .ref x0]) ⟨hx, hb, hml, hown, hts⟩ hw hM6 hle_u_17 (fun _ _ => ⟨callB_of 1 hts (xgood w_56) rfl rfl rfl (hts _ (xm w_3)) (hts _ (xm w_54)) ⟨by decide, by decide, by decide +kernel⟩ ⟨Nat.le_of_ble_eq_true rfl, Nat.le_of_ble_eq_true rfl⟩, rfl, (hts _ (xm w_55))⟩) rfl hl.1 rfl (Nat.le_of_ble_eq_true rfl) d_H_init_24 (fun H locs hw => ?_)
  refine xr_putF (ty := .object "DiagramHouse$Diagrams") hx hb hts (xmu uws_H) tyc_H tyc_H_ok nmc_H hown hw h7 rfl (by decide) (hts _ (xm w_232)) (fun _ h9 => h9) rfl hmn rfl (by decide +kernel) rfl rfl d_H_init_27 (fun H locs hw => ?_)
  exact xr_vret F rfl hw d_H_init_30
set_option maxRecDepth 100000 in
set_option maxHeartbeats 4000000 in
theorem t_H_siftAll_L19 (l : Launch) (Z : XZ) (u0 : PS) {Kv : Option Value → PS → Prop} {E46 : PS → Prop} (x0 : Nat) (x1 : Int32) (hE46 : ∀ (v : PS), E46 v → XN l Z i_H_siftAll u0 Kv v 46 [(0, .ref x0)] []) : ∀ (n : Nat) (x2 : Int32) (u : PS), p_H_siftAll_L19 x0 x1 E46 n x2 u → XN l Z i_H_siftAll u0 Kv u 19 [(0, .ref x0), (1, .int x1), (2, .int x2)] [] := by
  intro n
  induction n with
  | zero => intro x2 u k; exact False.elim k
  | succ n ih =>
    intro x2 u k
    rw [p_H_siftAll_L19] at k
    by_cases hc1 : x1 ≤ x2
    · have k := k.1 hc1
      obtain ⟨rv, v9, hK, hle_u, w9⟩ := hE46 u k
      refine ⟨rv, v9, hK, hle_u, ?_⟩
      intro p e s m args below meth c A H locs ls F hw hl
      obtain ⟨⟨hx, hb, hml, hown, hts⟩, hr, hlocks, hmn⟩ := id F
      refine lv_iload_n hx hb d_H_siftAll_19 rfl (lv_at hl 2 rfl) ?_
      refine lv_iload_n hx hb d_H_siftAll_20 rfl (lv_at hl 1 rfl) ?_
      refine lv_icmp_ge (tgt := 46) hx hb d_H_siftAll_21 (by decide) (fun _ => ?_) (fun c9 => absurd hc1 c9)
      exact w9 p e s m args below meth c A H locs ls F hw (lv_sub hl [0] rfl)
    · have k := k.2 hc1
      obtain ⟨z_25, h2, k⟩ := k
      obtain ⟨z_26, h3, k⟩ := k
      obtain ⟨h5, k⟩ := k
      obtain ⟨_, u_27, ⟨r_28, rfl, k⟩, hM4⟩ := c_D_inputWithTurn l Z z_26 x2 u _ k
      obtain ⟨h7, k⟩ := k
      obtain ⟨_, u_29, ⟨r_30, rfl, k⟩, hM6⟩ := c_D_settle l Z z_25 r_28 u_27 _ k
      obtain ⟨y8, ey8⟩ : ∃ y9 : Int32, y9 = x2 + 1 := ⟨_, rfl⟩
      have k := k y8 ey8
      obtain ⟨rv, v9, hK, hle_u_29, w9⟩ := ih y8 u_29 k
      have hle_u_27 : x_le u_27 v9 := (hM6.1).tr hle_u_29
      have hle_u : x_le u v9 := (hM4.1).tr hle_u_27
      refine ⟨rv, v9, hK, hle_u, ?_⟩
      intro p e s m args below meth c A H locs ls F hw hl
      obtain ⟨⟨hx, hb, hml, hown, hts⟩, hr, hlocks, hmn⟩ := id F
      refine lv_iload_n hx hb d_H_siftAll_19 rfl (lv_at hl 2 rfl) ?_
      refine lv_iload_n hx hb d_H_siftAll_20 rfl (lv_at hl 1 rfl) ?_
      refine lv_icmp_ge (tgt := 46) hx hb d_H_siftAll_21 (by decide) (fun c9 => absurd c9 hc1) (fun _ => ?_)
      refine lv_aload_n hx hb d_H_siftAll_24 rfl (lv_at hl 0 rfl) ?_
      refine xr_get hx hb hts (xmu uws_H) hown hw h2 rfl (by decide) (hts _ (xm w_232)) (fun _ h9 => h9) d_H_siftAll_25 ?_
      refine lv_aload_n hx hb d_H_siftAll_28 rfl (lv_at hl 0 rfl) ?_
      refine xr_get hx hb hts (xmu uws_H) hown hw h3 rfl (by decide) (hts _ (xm w_232)) (fun _ h9 => h9) d_H_siftAll_29 ?_
      refine lv_iload_n hx hb d_H_siftAll_32 rfl (lv_at hl 2 rfl) ?_
      refine xr_cV (As := [.int x2]) (rest := [.ref z_25]) ⟨hx, hb, hml, hown, hts⟩ hw hM4 hle_u_27 (fun _ _ => ⟨callB_of 1 hts (xgood w_399) rfl rfl rfl (hts _ (xm w_3)) (hts _ (xm w_396)) ⟨by decide, by decide, by decide +kernel⟩ ⟨Nat.le_of_ble_eq_true rfl, Nat.le_of_ble_eq_true rfl⟩, (hts _ (xm w_397)), (hts _ (xm w_398))⟩) (qc := (R_D, F_D, 13)) rfl rfl h5 rfl hl.1 rfl (Nat.le_of_ble_eq_true rfl) d_H_siftAll_33 (fun H locs hw => ?_)
      refine W.eq (g2 := F0 m 36 ls [.int r_28, .ref z_25]) rfl ?_
      refine xr_cV (As := [.int r_28]) (rest := []) ⟨hx, hb, hml, hown, hts⟩ hw hM6 hle_u_29 (fun _ _ => ⟨callB_of 1 hts (xgood w_403) rfl rfl rfl (hts _ (xm w_3)) (hts _ (xm w_400)) ⟨by decide, by decide, by decide +kernel⟩ ⟨Nat.le_of_ble_eq_true rfl, Nat.le_of_ble_eq_true rfl⟩, (hts _ (xm w_401)), (hts _ (xm w_402))⟩) (qc := (R_D, F_D, 13)) rfl rfl h7 rfl hl.1 rfl (Nat.le_of_ble_eq_true rfl) d_H_siftAll_36 (fun H locs hw => ?_)
      refine W.eq (g2 := F0 m 39 ls [.int r_30]) rfl ?_
      refine lv_pop hx hb d_H_siftAll_39 rfl ?_
      refine lv_iinc (v := y8) (lv' := [(2, .int y8), (0, .ref x0), (1, .int x1)]) hx hb d_H_siftAll_40 hl (k := 2) rfl (by subst ey8; rfl) (by decide) rfl (fun ls hl => ?_)
      refine lv_goto (tgt := 19) hx hb d_H_siftAll_43 (by decide) ?_
      exact w9 p e s m args below meth c A H locs ls F hw (lv_sub hl [1, 2, 0] rfl)
set_option maxRecDepth 100000 in
set_option maxHeartbeats 4000000 in
theorem t_H_siftAll_J46 (l : Launch) (Z : XZ) (u0 : PS) {K : Int32 → PS → Prop} (x0 : Nat) (u : PS) (k : (p_H_siftAll_J46 K x0 u)) : XN l Z i_H_siftAll u0 (kI K) u 46 [(0, .ref x0)] [] := by
  unfold p_H_siftAll_J46 at k
  obtain ⟨z_31, h1, k⟩ := k
  obtain ⟨h3, k⟩ := k
  obtain ⟨_, u_32, ⟨rfl, k⟩, hM2⟩ := c_D_settleUnused l Z z_31 u _ k
  obtain ⟨z_33, h4, k⟩ := k
  obtain ⟨h6, k⟩ := k
  obtain ⟨_, u_34, ⟨r_35, rfl, k⟩, hM5⟩ := c_D_wholeSize l Z z_33 u_32 _ k
  have hle_u_34 : x_le u_34 u_34 := x_le.rf u_34
  have hle_u_32 : x_le u_32 u_34 := (hM5.1).tr hle_u_34
  have hle_u : x_le u u_34 := (hM2.1).tr hle_u_32
  refine ⟨some (.int r_35), u_34, ⟨r_35, rfl, k⟩, hle_u, ?_⟩
  intro p e s m args below meth c A H locs ls F hw hl
  obtain ⟨⟨hx, hb, hml, hown, hts⟩, hr, hlocks, hmn⟩ := id F
  refine lv_aload_n hx hb d_H_siftAll_46 rfl (lv_at hl 0 rfl) ?_
  refine xr_get hx hb hts (xmu uws_H) hown hw h1 rfl (by decide) (hts _ (xm w_232)) (fun _ h9 => h9) d_H_siftAll_47 ?_
  refine xr_cV (As := []) (rest := []) ⟨hx, hb, hml, hown, hts⟩ hw hM2 hle_u_32 (fun _ _ => ⟨callB_of 0 hts (xgood w_502) rfl rfl rfl (hts _ (xm w_3)) (hts _ (xm w_499)) ⟨by decide, by decide, by decide +kernel⟩ ⟨Nat.le_of_ble_eq_true rfl, Nat.le_of_ble_eq_true rfl⟩, (hts _ (xm w_500)), (hts _ (xm w_501))⟩) (qc := (R_D, F_D, 13)) rfl rfl h3 rfl hl.1 rfl (Nat.le_of_ble_eq_true rfl) d_H_siftAll_50 (fun H locs hw => ?_)
  refine W.eq (g2 := F0 m 53 ls []) rfl ?_
  refine lv_aload_n hx hb d_H_siftAll_53 rfl (lv_at hl 0 rfl) ?_
  refine xr_get hx hb hts (xmu uws_H) hown hw h4 rfl (by decide) (hts _ (xm w_232)) (fun _ h9 => h9) d_H_siftAll_54 ?_
  refine xr_cV (As := []) (rest := []) ⟨hx, hb, hml, hown, hts⟩ hw hM5 hle_u_34 (fun _ _ => ⟨callB_of 0 hts (xgood w_506) rfl rfl rfl (hts _ (xm w_3)) (hts _ (xm w_503)) ⟨by decide, by decide, by decide +kernel⟩ ⟨Nat.le_of_ble_eq_true rfl, Nat.le_of_ble_eq_true rfl⟩, (hts _ (xm w_504)), (hts _ (xm w_505))⟩) (qc := (R_D, F_D, 13)) rfl rfl h6 rfl hl.1 rfl (Nat.le_of_ble_eq_true rfl) d_H_siftAll_57 (fun H locs hw => ?_)
  refine W.eq (g2 := F0 m 60 ls [.int r_35]) rfl ?_
  exact xr_iret F rfl hw d_H_siftAll_60
set_option maxRecDepth 100000 in
set_option maxHeartbeats 4000000 in
theorem c_H_siftAll (l : Launch) (Z : XZ) (x0 : Nat) (u : PS) (K : Int32 → PS → Prop) (k : p_H_siftAll x0 u K) : ∃ (rv : Option Value) (u1 : PS), (kI K) rv u1 ∧ XMet l Z i_H_siftAll [.ref x0] u rv u1 := by
  refine x_met (by decide) rfl (Nat.le_of_ble_eq_true rfl) ?_
  show XN l Z i_H_siftAll u (kI K) u 0 [(0, .ref x0)] []
  unfold p_H_siftAll at k
  obtain ⟨z_20, h1, k⟩ := k
  obtain ⟨h3, k⟩ := k
  obtain ⟨_, u_21, ⟨rfl, k⟩, hM2⟩ := c_D_draw l Z z_20 (16777215 : Int32) u _ k
  obtain ⟨z_22, h4, k⟩ := k
  obtain ⟨h6, k⟩ := k
  obtain ⟨_, u_23, ⟨r_24, rfl, k⟩, hM5⟩ := c_D_takeTurns l Z z_22 u_21 _ k
  obtain ⟨n7, k⟩ := k
  have hx9 : ∀ (v8 : PS), (p_H_siftAll_J46 K x0 v8) → XN l Z i_H_siftAll u (kI K) v8 46 [(0, .ref x0)] [] := by
    intro v8 k
    obtain ⟨rv, v9, hK, hle_v8, w9⟩ := t_H_siftAll_J46 l Z u x0 v8 k
    refine ⟨rv, v9, hK, hle_v8, ?_⟩
    intro p e s m args below meth c A H locs ls F hw hl
    obtain ⟨⟨hx, hb, hml, hown, hts⟩, hr, hlocks, hmn⟩ := id F
    exact w9 p e s m args below meth c A H locs ls F hw (lv_sub hl [0] rfl)
  obtain ⟨rv, v9, hK, hle_u_23, w9⟩ := t_H_siftAll_L19 l Z u x0 r_24 hx9 n7 (0 : Int32) u_23 k
  have hle_u_21 : x_le u_21 v9 := (hM5.1).tr hle_u_23
  have hle_u : x_le u v9 := (hM2.1).tr hle_u_21
  refine ⟨rv, v9, hK, hle_u, ?_⟩
  intro p e s m args below meth c A H locs ls F hw hl
  obtain ⟨⟨hx, hb, hml, hown, hts⟩, hr, hlocks, hmn⟩ := id F
  refine lv_aload_n hx hb d_H_siftAll_0 rfl (lv_at hl 0 rfl) ?_
  refine xr_get hx hb hts (xmu uws_H) hown hw h1 rfl (by decide) (hts _ (xm w_232)) (fun _ h9 => h9) d_H_siftAll_1 ?_
  refine lv_ldc (v := 16777215) hx hb hown (hts _ (xm w_242)) d_H_siftAll_4 ?_
  refine xr_cV (As := [.int 16777215]) (rest := []) ⟨hx, hb, hml, hown, hts⟩ hw hM2 hle_u_21 (fun _ _ => ⟨callB_of 1 hts (xgood w_246) rfl rfl rfl (hts _ (xm w_3)) (hts _ (xm w_243)) ⟨by decide, by decide, by decide +kernel⟩ ⟨Nat.le_of_ble_eq_true rfl, Nat.le_of_ble_eq_true rfl⟩, (hts _ (xm w_244)), (hts _ (xm w_245))⟩) (qc := (R_D, F_D, 13)) rfl rfl h3 rfl hl.1 rfl (Nat.le_of_ble_eq_true rfl) d_H_siftAll_6 (fun H locs hw => ?_)
  refine W.eq (g2 := F0 m 9 ls []) rfl ?_
  refine lv_aload_n hx hb d_H_siftAll_9 rfl (lv_at hl 0 rfl) ?_
  refine xr_get hx hb hts (xmu uws_H) hown hw h4 rfl (by decide) (hts _ (xm w_232)) (fun _ h9 => h9) d_H_siftAll_10 ?_
  refine xr_cV (As := []) (rest := []) ⟨hx, hb, hml, hown, hts⟩ hw hM5 hle_u_23 (fun _ _ => ⟨callB_of 0 hts (xgood w_391) rfl rfl rfl (hts _ (xm w_3)) (hts _ (xm w_388)) ⟨by decide, by decide, by decide +kernel⟩ ⟨Nat.le_of_ble_eq_true rfl, Nat.le_of_ble_eq_true rfl⟩, (hts _ (xm w_389)), (hts _ (xm w_390))⟩) (qc := (R_D, F_D, 13)) rfl rfl h6 rfl hl.1 rfl (Nat.le_of_ble_eq_true rfl) d_H_siftAll_13 (fun H locs hw => ?_)
  refine W.eq (g2 := F0 m 16 ls [.int r_24]) rfl ?_
  refine lv_istore_n (lv' := [(1, .int r_24), (0, .ref x0)]) hx hb d_H_siftAll_16 rfl hl (by decide) rfl (fun ls hl => ?_)
  refine lv_iconst (v := 0) hx hb d_H_siftAll_17 (by decide) ?_
  refine lv_istore_n (lv' := [(2, .int 0), (1, .int r_24), (0, .ref x0)]) hx hb d_H_siftAll_18 rfl hl (by decide) rfl (fun ls hl => ?_)
  exact w9 p e s m args below meth c A H locs ls F hw (lv_sub hl [2, 1, 0] rfl)
