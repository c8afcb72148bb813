set_option maxRecDepth 100000 in
set_option maxHeartbeats 4000000 in
theorem c_JI_bitCount (l : Launch) (Z : XZ) (x0 : Int32) (u : PS) (K : Int32 → PS → Prop) (k : p_JI_bitCount x0 u K) : ∃ (rv : Option Value) (u1 : PS), (kI K) rv u1 ∧ XMet l Z i_JI_bitCount [.int x0] u rv u1 := by
  refine x_met (by decide) rfl (Nat.le_of_ble_eq_true rfl) ?_
  show XN l Z i_JI_bitCount u (kI K) u 0 [(0, .int x0)] []
  unfold p_JI_bitCount at k
  obtain ⟨y1, ey1⟩ : ∃ y9 : Int32, y9 = (x0 - (((x0.toUInt32 >>> ((1 : Int32).toUInt32 &&& Int32.toUInt32 31)).toInt32) &&& (1431655765 : Int32))) := ⟨_, rfl⟩
  have k := k y1 ey1
  obtain ⟨y2, ey2⟩ : ∃ y9 : Int32, y9 = ((y1 &&& (858993459 : Int32)) + (((y1.toUInt32 >>> ((2 : Int32).toUInt32 &&& Int32.toUInt32 31)).toInt32) &&& (858993459 : Int32))) := ⟨_, rfl⟩
  have k := k y2 ey2
  obtain ⟨y3, ey3⟩ : ∃ y9 : Int32, y9 = ((y2 + ((y2.toUInt32 >>> ((4 : Int32).toUInt32 &&& Int32.toUInt32 31)).toInt32)) &&& (252645135 : Int32)) := ⟨_, rfl⟩
  have k := k y3 ey3
  obtain ⟨y4, ey4⟩ : ∃ y9 : Int32, y9 = (y3 + ((y3.toUInt32 >>> ((8 : Int32).toUInt32 &&& Int32.toUInt32 31)).toInt32)) := ⟨_, rfl⟩
  have k := k y4 ey4
  obtain ⟨y5, ey5⟩ : ∃ y9 : Int32, y9 = (y4 + ((y4.toUInt32 >>> ((16 : Int32).toUInt32 &&& Int32.toUInt32 31)).toInt32)) := ⟨_, rfl⟩
  have k := k y5 ey5
  have hle_u : x_le u u := x_le.rf u
  refine ⟨some (.int (y5 &&& (63 : Int32))), u, ⟨(y5 &&& (63 : Int32)), rfl, k⟩, hle_u, ?_⟩
  intro p e s m args below meth c A H locs ls F hw hl
  obtain ⟨⟨hx, hb, hml, hown, hts⟩, hr, hlocks, hmn⟩ := id F
  refine lv_iload_n hx hb d_JI_bitCount_0 rfl (lv_at hl 0 rfl) ?_
  refine lv_iload_n hx hb d_JI_bitCount_1 rfl (lv_at hl 0 rfl) ?_
  refine lv_iconst (v := 1) hx hb d_JI_bitCount_2 (by decide) ?_
  refine lv_iushr hx hb d_JI_bitCount_3 rfl ?_
  refine lv_ldcw (v := 1431655765) hx hb hown (hts _ (xm w_288)) d_JI_bitCount_4 ?_
  refine lv_iand hx hb d_JI_bitCount_7 ?_
  refine lv_isub hx hb d_JI_bitCount_8 ?_
  refine lv_istore_n (lv' := [(0, .int y1)]) hx hb d_JI_bitCount_9 rfl hl (by decide) (by subst ey1; rfl) (fun ls hl => ?_)
  refine lv_iload_n hx hb d_JI_bitCount_10 rfl (lv_at hl 0 rfl) ?_
  refine lv_ldcw (v := 858993459) hx hb hown (hts _ (xm w_289)) d_JI_bitCount_11 ?_
  refine lv_iand hx hb d_JI_bitCount_14 ?_
  refine lv_iload_n hx hb d_JI_bitCount_15 rfl (lv_at hl 0 rfl) ?_
  refine lv_iconst (v := 2) hx hb d_JI_bitCount_16 (by decide) ?_
  refine lv_iushr hx hb d_JI_bitCount_17 rfl ?_
  refine lv_ldcw (v := 858993459) hx hb hown (hts _ (xm w_289)) d_JI_bitCount_18 ?_
  refine lv_iand hx hb d_JI_bitCount_21 ?_
  refine lv_iadd hx hb d_JI_bitCount_22 ?_
  refine lv_istore_n (lv' := [(0, .int y2)]) hx hb d_JI_bitCount_23 rfl hl (by decide) (by subst ey2; rfl) (fun ls hl => ?_)
  refine lv_iload_n hx hb d_JI_bitCount_24 rfl (lv_at hl 0 rfl) ?_
  refine lv_iload_n hx hb d_JI_bitCount_25 rfl (lv_at hl 0 rfl) ?_
  refine lv_iconst (v := 4) hx hb d_JI_bitCount_26 (by decide) ?_
  refine lv_iushr hx hb d_JI_bitCount_27 rfl ?_
  refine lv_iadd hx hb d_JI_bitCount_28 ?_
  refine lv_ldcw (v := 252645135) hx hb hown (hts _ (xm w_290)) d_JI_bitCount_29 ?_
  refine lv_iand hx hb d_JI_bitCount_32 ?_
  refine lv_istore_n (lv' := [(0, .int y3)]) hx hb d_JI_bitCount_33 rfl hl (by decide) (by subst ey3; rfl) (fun ls hl => ?_)
  refine lv_iload_n hx hb d_JI_bitCount_34 rfl (lv_at hl 0 rfl) ?_
  refine lv_iload_n hx hb d_JI_bitCount_35 rfl (lv_at hl 0 rfl) ?_
  refine lv_bipush (v := 8) hx hb d_JI_bitCount_36 (by decide) ?_
  refine lv_iushr hx hb d_JI_bitCount_38 rfl ?_
  refine lv_iadd hx hb d_JI_bitCount_39 ?_
  refine lv_istore_n (lv' := [(0, .int y4)]) hx hb d_JI_bitCount_40 rfl hl (by decide) (by subst ey4; rfl) (fun ls hl => ?_)
  refine lv_iload_n hx hb d_JI_bitCount_41 rfl (lv_at hl 0 rfl) ?_
  refine lv_iload_n hx hb d_JI_bitCount_42 rfl (lv_at hl 0 rfl) ?_
  refine lv_bipush (v := 16) hx hb d_JI_bitCount_43 (by decide) ?_
  refine lv_iushr hx hb d_JI_bitCount_45 rfl ?_
  refine lv_iadd hx hb d_JI_bitCount_46 ?_
  refine lv_istore_n (lv' := [(0, .int y5)]) hx hb d_JI_bitCount_47 rfl hl (by decide) (by subst ey5; rfl) (fun ls hl => ?_)
  refine lv_iload_n hx hb d_JI_bitCount_48 rfl (lv_at hl 0 rfl) ?_
  refine lv_bipush (v := 63) hx hb d_JI_bitCount_49 (by decide) ?_
  refine lv_iand hx hb d_JI_bitCount_51 ?_
  exact xr_iret F rfl hw d_JI_bitCount_52
set_option maxRecDepth 100000 in
set_option maxHeartbeats 4000000 in
theorem t_F_ones_L22 (l : Launch) (Z : XZ) (u0 : PS) {Kv : Option Value → PS → Prop} {E56 : Int32 → PS → Prop} (x2 : Nat) (x3 : Int32) (hE56 : ∀ (y4 : Int32) (v : PS), E56 y4 v → XN l Z i_F_ones u0 Kv v 56 [(3, .int x3), (4, .int y4)] []) : ∀ (n : Nat) (x4 : Int32) (x5 : Int32) (u : PS), p_F_ones_L22 x2 x3 E56 n x4 x5 u → XN l Z i_F_ones u0 Kv u 22 [(2, .ref x2), (3, .int x3), (4, .int x4), (5, .int x5)] [] := by
  intro n
  induction n with
  | zero => intro x4 x5 u k; exact False.elim k
  | succ n ih =>
    intro x4 x5 u k
    rw [p_F_ones_L22] at k
    by_cases hc1 : 16 ≤ x5
    · have k := k.1 hc1
      obtain ⟨rv, v9, hK, hle_u, w9⟩ := hE56 x4 u k
      refine ⟨rv, v9, hK, hle_u, ?_⟩
      intro p e s m args below meth c A H locs ls F hw hl
      obtain ⟨⟨hx, hb, hml, hown, hts⟩, hr, hlocks, hmn⟩ := id F
      refine lv_iload hx hb d_F_ones_22 (lv_at hl 3 rfl) ?_
      refine lv_bipush (v := 16) hx hb d_F_ones_24 (by decide) ?_
      refine lv_icmp_ge (tgt := 56) hx hb d_F_ones_26 (by decide) (fun _ => ?_) (fun c9 => absurd hc1 c9)
      exact w9 p e s m args below meth c A H locs ls F hw (lv_sub hl [1, 2] rfl)
    · have k := k.2 hc1
      obtain ⟨z_23, h2, k⟩ := k
      obtain ⟨_, u_24, ⟨r_25, rfl, k⟩, hM3⟩ := c_JL_bitCount l Z z_23 u _ k
      obtain ⟨y4, ey4⟩ : ∃ y9 : Int32, y9 = (x4 + r_25) := ⟨_, rfl⟩
      have k := k y4 ey4
      obtain ⟨y5, ey5⟩ : ∃ y9 : Int32, y9 = (((x5 ||| x3) + (1 : Int32)) &&& (x3 ^^^ (-1 : Int32))) := ⟨_, rfl⟩
      have k := k y5 ey5
      obtain ⟨rv, v9, hK, hle_u_24, w9⟩ := ih y4 y5 u_24 k
      have hle_u : x_le u v9 := (hM3.1).tr hle_u_24
      refine ⟨rv, v9, hK, hle_u, ?_⟩
      intro p e s m args below meth c A H locs ls F hw hl
      obtain ⟨⟨hx, hb, hml, hown, hts⟩, hr, hlocks, hmn⟩ := id F
      refine lv_iload hx hb d_F_ones_22 (lv_at hl 3 rfl) ?_
      refine lv_bipush (v := 16) hx hb d_F_ones_24 (by decide) ?_
      refine lv_icmp_ge (tgt := 56) hx hb d_F_ones_26 (by decide) (fun c9 => absurd c9 hc1) (fun _ => ?_)
      refine lv_iload hx hb d_F_ones_29 (lv_at hl 2 rfl) ?_
      refine lv_aload_n hx hb d_F_ones_31 rfl (lv_at hl 0 rfl) ?_
      refine lv_iload hx hb d_F_ones_32 (lv_at hl 3 rfl) ?_
      refine xr_lald hx hb hw h2 d_F_ones_34 ?_
      refine xr_cS (As := [.long z_23]) (rest := [.int x4]) ⟨hx, hb, hml, hown, hts⟩ hw hM3 hle_u_24 (fun _ _ => ⟨callB_of 1 hts (xgood w_787) rfl rfl rfl (hts _ (xm w_16)) (hts _ (xm w_785)) ⟨by decide, by decide, by decide +kernel⟩ ⟨Nat.le_of_ble_eq_true rfl, Nat.le_of_ble_eq_true rfl⟩, (hts _ (xm w_786))⟩) rfl hl.1 rfl (Nat.le_of_ble_eq_true rfl) d_F_ones_35 (fun H locs hw => ?_)
      refine W.eq (g2 := F0 m 38 ls [.int r_25, .int x4]) rfl ?_
      refine lv_iadd hx hb d_F_ones_38 ?_
      refine lv_istore (lv' := [(4, .int y4), (2, .ref x2), (3, .int x3), (5, .int x5)]) hx hb d_F_ones_39 hl (by decide) (by subst ey4; rfl) (fun ls hl => ?_)
      refine lv_iload hx hb d_F_ones_41 (lv_at hl 3 rfl) ?_
      refine lv_iload_n hx hb d_F_ones_43 rfl (lv_at hl 2 rfl) ?_
      refine lv_ior hx hb d_F_ones_44 ?_
      refine lv_iconst (v := 1) hx hb d_F_ones_45 (by decide) ?_
      refine lv_iadd hx hb d_F_ones_46 ?_
      refine lv_iload_n hx hb d_F_ones_47 rfl (lv_at hl 2 rfl) ?_
      refine lv_iconst (v := (-1)) hx hb d_F_ones_48 (by decide) ?_
      refine lv_ixor hx hb d_F_ones_49 ?_
      refine lv_iand hx hb d_F_ones_50 ?_
      refine lv_istore (lv' := [(5, .int y5), (4, .int y4), (2, .ref x2), (3, .int x3)]) hx hb d_F_ones_51 hl (by decide) (by subst ey5; rfl) (fun ls hl => ?_)
      refine lv_goto (tgt := 22) hx hb d_F_ones_53 (by decide) ?_
      exact w9 p e s m args below meth c A H locs ls F hw (lv_sub hl [2, 3, 1, 0] rfl)
set_option maxRecDepth 100000 in
set_option maxHeartbeats 4000000 in
theorem t_F_ones_J56 (l : Launch) (Z : XZ) (u0 : PS) {K : Int32 → PS → Prop} (x3 : Int32) (x4 : Int32) (u : PS) (k : (p_F_ones_J56 K x3 x4 u)) : XN l Z i_F_ones u0 (kI K) u 56 [(3, .int x3), (4, .int x4)] [] := by
  unfold p_F_ones_J56 at k
  obtain ⟨_, u_26, ⟨r_27, rfl, k⟩, hM1⟩ := c_JI_bitCount l Z x3 u _ k
  have hle_u_26 : x_le u_26 u_26 := x_le.rf u_26
  have hle_u : x_le u u_26 := (hM1.1).tr hle_u_26
  refine ⟨some (.int (x4 <<< (r_27 &&& 31))), u_26, ⟨(x4 <<< (r_27 &&& 31)), rfl, k⟩, hle_u, ?_⟩
  intro p e s m args below meth c A H locs ls F hw hl
  obtain ⟨⟨hx, hb, hml, hown, hts⟩, hr, hlocks, hmn⟩ := id F
  refine lv_iload hx hb d_F_ones_56 (lv_at hl 1 rfl) ?_
  refine lv_iload_n hx hb d_F_ones_58 rfl (lv_at hl 0 rfl) ?_
  refine xr_cS (As := [.int x3]) (rest := [.int x4]) ⟨hx, hb, hml, hown, hts⟩ hw hM1 hle_u_26 (fun _ _ => ⟨callB_of 1 hts (xgood w_287) rfl rfl rfl (hts _ (xm w_5)) (hts _ (xm w_791)) ⟨by decide, by decide, by decide +kernel⟩ ⟨Nat.le_of_ble_eq_true rfl, Nat.le_of_ble_eq_true rfl⟩, (hts _ (xm w_286))⟩) rfl hl.1 rfl (Nat.le_of_ble_eq_true rfl) d_F_ones_59 (fun H locs hw => ?_)
  refine W.eq (g2 := F0 m 62 ls [.int r_27, .int x4]) rfl ?_
  refine lv_ishl hx hb d_F_ones_62 ?_
  exact xr_iret F rfl hw d_F_ones_63
set_option maxRecDepth 100000 in
set_option maxHeartbeats 4000000 in
theorem c_F_ones (l : Launch) (Z : XZ) (x0 : Nat) (x1 : Int32) (u : PS) (K : Int32 → PS → Prop) (k : p_F_ones x0 x1 u K) : ∃ (rv : Option Value) (u1 : PS), (kI K) rv u1 ∧ XMet l Z i_F_ones [.ref x0, .int x1] u rv u1 := by
  refine x_met (by decide) rfl (Nat.le_of_ble_eq_true rfl) ?_
  show XN l Z i_F_ones u (kI K) u 0 [(0, .ref x0), (1, .int x1)] []
  unfold p_F_ones at k
  obtain ⟨z_17, h1, k⟩ := k
  obtain ⟨z_18, h2, k⟩ := k
  obtain ⟨h4, k⟩ := k
  obtain ⟨_, u_19, ⟨r_20, rfl, k⟩, hM3⟩ := c_F_keptWords l Z x0 x1 u _ k
  obtain ⟨_, u_21, ⟨r_22, rfl, k⟩, hM5⟩ := c_F_leftOut l Z r_20 u_19 _ k
  obtain ⟨n6, k⟩ := k
  have hx9 : ∀ (y4_7 : Int32) (v8 : PS), (p_F_ones_J56 K r_22 y4_7 v8) → XN l Z i_F_ones u (kI K) v8 56 [(3, .int r_22), (4, .int y4_7)] [] := by
    intro y4_7 v8 k
    obtain ⟨rv, v9, hK, hle_v8, w9⟩ := t_F_ones_J56 l Z u r_22 y4_7 v8 k
    refine ⟨rv, v9, hK, hle_v8, ?_⟩
    intro p e s m args below meth c A H locs ls F hw hl
    obtain ⟨⟨hx, hb, hml, hown, hts⟩, hr, hlocks, hmn⟩ := id F
    exact w9 p e s m args below meth c A H locs ls F hw (lv_sub hl [0, 1] rfl)
  obtain ⟨rv, v9, hK, hle_u_21, w9⟩ := t_F_ones_L22 l Z u z_18 r_22 hx9 n6 (0 : Int32) (0 : Int32) u_21 k
  have hle_u_19 : x_le u_19 v9 := (hM5.1).tr hle_u_21
  have hle_u : x_le u v9 := (hM3.1).tr hle_u_19
  refine ⟨rv, v9, hK, hle_u, ?_⟩
  intro p e s m args below meth c A H locs ls F hw hl
  obtain ⟨⟨hx, hb, hml, hown, hts⟩, hr, hlocks, hmn⟩ := id F
  refine lv_aload_n hx hb d_F_ones_0 rfl (lv_at hl 0 rfl) ?_
  refine xr_get hx hb hts (xmu uws_F) hown hw h1 rfl (by decide) (hts _ (xm w_34)) (fun _ h9 => h9) d_F_ones_1 ?_
  refine lv_iload_n hx hb d_F_ones_4 rfl (lv_at hl 1 rfl) ?_
  refine xr_aald hx hb hw rfl h2 d_F_ones_5 ?_
  refine lv_astore_n (lv' := [(2, .ref z_18), (0, .ref x0), (1, .int x1)]) hx hb d_F_ones_6 rfl hl (by decide) rfl (fun ls hl => ?_)
  refine lv_aload_n hx hb d_F_ones_7 rfl (lv_at hl 1 rfl) ?_
  refine lv_iload_n hx hb d_F_ones_8 rfl (lv_at hl 2 rfl) ?_
  refine xr_cV (As := [.int x1]) (rest := []) ⟨hx, hb, hml, hown, hts⟩ hw hM3 hle_u_19 (fun _ _ => ⟨callB_of 1 hts (xgood w_264) rfl rfl rfl (hts _ (xm w_2)) (hts _ (xm w_261)) ⟨by decide, by decide, by decide +kernel⟩ ⟨Nat.le_of_ble_eq_true rfl, Nat.le_of_ble_eq_true rfl⟩, (hts _ (xm w_263)), (hts _ (xm wp_1))⟩) (qc := (R_F, F_F, 5)) rfl rfl h4 rfl hl.1 rfl (Nat.le_of_ble_eq_true rfl) d_F_ones_9 (fun H locs hw => ?_)
  refine W.eq (g2 := F0 m 12 ls [.int r_20]) rfl ?_
  refine xr_cS (As := [.int r_20]) (rest := []) ⟨hx, hb, hml, hown, hts⟩ hw hM5 hle_u_21 (fun _ _ => ⟨callB_of 1 hts (xgood w_267) rfl rfl rfl (hts _ (xm w_2)) (hts _ (xm w_265)) ⟨by decide, by decide, by decide +kernel⟩ ⟨Nat.le_of_ble_eq_true rfl, Nat.le_of_ble_eq_true rfl⟩, (hts _ (xm w_266))⟩) rfl hl.1 rfl (Nat.le_of_ble_eq_true rfl) d_F_ones_12 (fun H locs hw => ?_)
  refine W.eq (g2 := F0 m 15 ls [.int r_22]) rfl ?_
  refine lv_istore_n (lv' := [(3, .int r_22), (2, .ref z_18), (0, .ref x0), (1, .int x1)]) hx hb d_F_ones_15 rfl hl (by decide) rfl (fun ls hl => ?_)
  refine lv_iconst (v := 0) hx hb d_F_ones_16 (by decide) ?_
  refine lv_istore (lv' := [(4, .int 0), (3, .int r_22), (2, .ref z_18), (0, .ref x0), (1, .int x1)]) hx hb d_F_ones_17 hl (by decide) rfl (fun ls hl => ?_)
  refine lv_iconst (v := 0) hx hb d_F_ones_19 (by decide) ?_
  refine lv_istore (lv' := [(5, .int 0), (4, .int 0), (3, .int r_22), (2, .ref z_18), (0, .ref x0), (1, .int x1)]) hx hb d_F_ones_20 hl (by decide) rfl (fun ls hl => ?_)
  exact w9 p e s m args below meth c A H locs ls F hw (lv_sub hl [3, 2, 1, 0] rfl)
set_option maxRecDepth 100000 in
set_option maxHeartbeats 4000000 in
theorem c_JL_numberOfTrailingZeros (l : Launch) (Z : XZ) (x0 : Int64) (u : PS) (K : Int32 → PS → Prop) (k : p_JL_numberOfTrailingZeros x0 u K) : ∃ (rv : Option Value) (u1 : PS), (kI K) rv u1 ∧ XMet l Z i_JL_numberOfTrailingZeros [.long x0] u rv u1 := by
  refine x_met (by decide) rfl (Nat.le_of_ble_eq_true rfl) ?_
  show XN l Z i_JL_numberOfTrailingZeros u (kI K) u 0 [(0, .long x0)] []
  unfold p_JL_numberOfTrailingZeros at k
  obtain ⟨y1, ey1⟩ : ∃ y9 : Int32, y9 = (x0.toInt32) := ⟨_, rfl⟩
  have k := k y1 ey1
  by_cases hc2 : y1 = 0
  · have k := k.2 hc2
    obtain ⟨_, u_6, ⟨r_7, rfl, k⟩, hM3⟩ := c_JI_numberOfTrailingZeros l Z (((x0.toUInt64 >>> ((32 : Int32).toInt64.toUInt64 &&& Int64.toUInt64 63)).toInt64).toInt32) u _ k
    have hle_u_6 : x_le u_6 u_6 := x_le.rf u_6
    have hle_u : x_le u u_6 := (hM3.1).tr hle_u_6
    refine ⟨some (.int ((32 : Int32) + r_7)), u_6, ⟨((32 : Int32) + r_7), rfl, k⟩, hle_u, ?_⟩
    intro p e s m args below meth c A H locs ls F hw hl
    obtain ⟨⟨hx, hb, hml, hown, hts⟩, hr, hlocks, hmn⟩ := id F
    refine lv_lload_n hx hb d_JL_numberOfTrailingZeros_0 rfl (lv_at hl 0 rfl) ?_
    refine lv_l2i hx hb d_JL_numberOfTrailingZeros_1 rfl ?_
    refine lv_istore_n (lv' := [(2, .int y1), (0, .long x0)]) hx hb d_JL_numberOfTrailingZeros_2 rfl hl (by decide) (by subst ey1; rfl) (fun ls hl => ?_)
    refine lv_iload_n hx hb d_JL_numberOfTrailingZeros_3 rfl (lv_at hl 0 rfl) ?_
    refine lv_if_ne (tgt := 21) hx hb d_JL_numberOfTrailingZeros_4 (by decide) (fun c9 => absurd hc2 c9) (fun _ => ?_)
    refine lv_bipush (v := 32) hx hb d_JL_numberOfTrailingZeros_7 (by decide) ?_
    refine lv_lload_n hx hb d_JL_numberOfTrailingZeros_9 rfl (lv_at hl 1 rfl) ?_
    refine lv_bipush (v := 32) hx hb d_JL_numberOfTrailingZeros_10 (by decide) ?_
    refine lv_lushr hx hb d_JL_numberOfTrailingZeros_12 rfl ?_
    refine lv_l2i hx hb d_JL_numberOfTrailingZeros_13 rfl ?_
    refine xr_cS (As := [.int (((x0.toUInt64 >>> ((32 : Int32).toInt64.toUInt64 &&& Int64.toUInt64 63)).toInt64).toInt32)]) (rest := [.int 32]) ⟨hx, hb, hml, hown, hts⟩ hw hM3 hle_u_6 (fun _ _ => ⟨callB_of 1 hts (xgood w_68) rfl rfl rfl (hts _ (xm w_5)) (hts _ (xm w_814)) ⟨by decide, by decide, by decide +kernel⟩ ⟨Nat.le_of_ble_eq_true rfl, Nat.le_of_ble_eq_true rfl⟩, (hts _ (xm w_67))⟩) rfl hl.1 rfl (Nat.le_of_ble_eq_true rfl) d_JL_numberOfTrailingZeros_14 (fun H locs hw => ?_)
    refine W.eq (g2 := F0 m 17 ls [.int r_7, .int 32]) rfl ?_
    refine lv_iadd hx hb d_JL_numberOfTrailingZeros_17 ?_
    refine lv_goto (tgt := 25) hx hb d_JL_numberOfTrailingZeros_18 (by decide) ?_
    exact xr_iret F rfl hw d_JL_numberOfTrailingZeros_25
  · have k := k.1 hc2
    obtain ⟨_, u_8, ⟨r_9, rfl, k⟩, hM4⟩ := c_JI_numberOfTrailingZeros l Z y1 u _ k
    have hle_u_8 : x_le u_8 u_8 := x_le.rf u_8
    have hle_u : x_le u u_8 := (hM4.1).tr hle_u_8
    refine ⟨some (.int r_9), u_8, ⟨r_9, rfl, k⟩, hle_u, ?_⟩
    intro p e s m args below meth c A H locs ls F hw hl
    obtain ⟨⟨hx, hb, hml, hown, hts⟩, hr, hlocks, hmn⟩ := id F
    refine lv_lload_n hx hb d_JL_numberOfTrailingZeros_0 rfl (lv_at hl 0 rfl) ?_
    refine lv_l2i hx hb d_JL_numberOfTrailingZeros_1 rfl ?_
    refine lv_istore_n (lv' := [(2, .int y1), (0, .long x0)]) hx hb d_JL_numberOfTrailingZeros_2 rfl hl (by decide) (by subst ey1; rfl) (fun ls hl => ?_)
    refine lv_iload_n hx hb d_JL_numberOfTrailingZeros_3 rfl (lv_at hl 0 rfl) ?_
    refine lv_if_ne (tgt := 21) hx hb d_JL_numberOfTrailingZeros_4 (by decide) (fun _ => ?_) (fun c9 => absurd c9 hc2)
    refine lv_iload_n hx hb d_JL_numberOfTrailingZeros_21 rfl (lv_at hl 0 rfl) ?_
    refine xr_cS (As := [.int y1]) (rest := []) ⟨hx, hb, hml, hown, hts⟩ hw hM4 hle_u_8 (fun _ _ => ⟨callB_of 1 hts (xgood w_68) rfl rfl rfl (hts _ (xm w_5)) (hts _ (xm w_814)) ⟨by decide, by decide, by decide +kernel⟩ ⟨Nat.le_of_ble_eq_true rfl, Nat.le_of_ble_eq_true rfl⟩, (hts _ (xm w_67))⟩) rfl hl.1 rfl (Nat.le_of_ble_eq_true rfl) d_JL_numberOfTrailingZeros_22 (fun H locs hw => ?_)
    refine W.eq (g2 := F0 m 25 ls [.int r_9]) rfl ?_
    exact xr_iret F rfl hw d_JL_numberOfTrailingZeros_25
set_option maxRecDepth 100000 in
set_option maxHeartbeats 4000000 in
theorem t_F_firstOne_L19 (l : Launch) (Z : XZ) (u0 : PS) {Kv : Option Value → PS → Prop} {E35 : Int32 → PS → Prop} {E64 : PS → Prop} (x2 : Nat) (x3 : Int32) (hE35 : ∀ (y4 : Int32) (v : PS), E35 y4 v → XN l Z i_F_firstOne u0 Kv v 35 [(2, .ref x2), (4, .int y4)] []) (hE64 : ∀ (v : PS), E64 v → XN l Z i_F_firstOne u0 Kv v 64 [] []) : ∀ (n : Nat) (x4 : Int32) (u : PS), p_F_firstOne_L19 x2 x3 E35 E64 n x4 u → XN l Z i_F_firstOne u0 Kv u 19 [(2, .ref x2), (3, .int x3), (4, .int x4)] [] := by
  intro n
  induction n with
  | zero => intro x4 u k; exact False.elim k
  | succ n ih =>
    intro x4 u k
    rw [p_F_firstOne_L19] at k
    by_cases hc1 : 16 ≤ x4
    · have k := k.1 hc1
      obtain ⟨rv, v9, hK, hle_u, w9⟩ := hE64 u k
      refine ⟨rv, v9, hK, hle_u, ?_⟩
      intro p e s m args below meth c A H locs ls F hw hl
      obtain ⟨⟨hx, hb, hml, hown, hts⟩, hr, hlocks, hmn⟩ := id F
      refine lv_iload hx hb d_F_firstOne_19 (lv_at hl 2 rfl) ?_
      refine lv_bipush (v := 16) hx hb d_F_firstOne_21 (by decide) ?_
      refine lv_icmp_ge (tgt := 64) hx hb d_F_firstOne_23 (by decide) (fun _ => ?_) (fun c9 => absurd hc1 c9)
      exact w9 p e s m args below meth c A H locs ls F hw (lv_sub hl [] rfl)
    · have k := k.2 hc1
      obtain ⟨z_22, h2, k⟩ := k
      by_cases hc3 : (lg_cmp z_22 (0 : Int64)) = 0
      · have k := k.1 hc3
        obtain ⟨y4, ey4⟩ : ∃ y9 : Int32, y9 = (((x4 ||| x3) + (1 : Int32)) &&& (x3 ^^^ (-1 : Int32))) := ⟨_, rfl⟩
        have k := k y4 ey4
        obtain ⟨rv, v9, hK, hle_u, w9⟩ := ih y4 u k
        refine ⟨rv, v9, hK, hle_u, ?_⟩
        intro p e s m args below meth c A H locs ls F hw hl
        obtain ⟨⟨hx, hb, hml, hown, hts⟩, hr, hlocks, hmn⟩ := id F
        refine lv_iload hx hb d_F_firstOne_19 (lv_at hl 2 rfl) ?_
        refine lv_bipush (v := 16) hx hb d_F_firstOne_21 (by decide) ?_
        refine lv_icmp_ge (tgt := 64) hx hb d_F_firstOne_23 (by decide) (fun c9 => absurd c9 hc1) (fun _ => ?_)
        refine lv_aload_n hx hb d_F_firstOne_26 rfl (lv_at hl 0 rfl) ?_
        refine lv_iload hx hb d_F_firstOne_27 (lv_at hl 2 rfl) ?_
        refine xr_lald hx hb hw h2 d_F_firstOne_29 ?_
        refine lv_lconst (v := 0) hx hb d_F_firstOne_30 (by decide) ?_
        refine W.lcmp hx hb d_F_firstOne_31 ?_
        refine lv_if_eq (tgt := 49) hx hb d_F_firstOne_32 (by decide) (fun _ => ?_) (fun c9 => absurd hc3 c9)
        refine lv_iload hx hb d_F_firstOne_49 (lv_at hl 2 rfl) ?_
        refine lv_iload_n hx hb d_F_firstOne_51 rfl (lv_at hl 1 rfl) ?_
        refine lv_ior hx hb d_F_firstOne_52 ?_
        refine lv_iconst (v := 1) hx hb d_F_firstOne_53 (by decide) ?_
        refine lv_iadd hx hb d_F_firstOne_54 ?_
        refine lv_iload_n hx hb d_F_firstOne_55 rfl (lv_at hl 1 rfl) ?_
        refine lv_iconst (v := (-1)) hx hb d_F_firstOne_56 (by decide) ?_
        refine lv_ixor hx hb d_F_firstOne_57 ?_
        refine lv_iand hx hb d_F_firstOne_58 ?_
        refine lv_istore (lv' := [(4, .int y4), (2, .ref x2), (3, .int x3)]) hx hb d_F_firstOne_59 hl (by decide) (by subst ey4; rfl) (fun ls hl => ?_)
        refine lv_goto (tgt := 19) hx hb d_F_firstOne_61 (by decide) ?_
        exact w9 p e s m args below meth c A H locs ls F hw (lv_sub hl [1, 2, 0] rfl)
      · have k := k.2 hc3
        obtain ⟨rv, v9, hK, hle_u, w9⟩ := hE35 x4 u k
        refine ⟨rv, v9, hK, hle_u, ?_⟩
        intro p e s m args below meth c A H locs ls F hw hl
        obtain ⟨⟨hx, hb, hml, hown, hts⟩, hr, hlocks, hmn⟩ := id F
        refine lv_iload hx hb d_F_firstOne_19 (lv_at hl 2 rfl) ?_
        refine lv_bipush (v := 16) hx hb d_F_firstOne_21 (by decide) ?_
        refine lv_icmp_ge (tgt := 64) hx hb d_F_firstOne_23 (by decide) (fun c9 => absurd c9 hc1) (fun _ => ?_)
        refine lv_aload_n hx hb d_F_firstOne_26 rfl (lv_at hl 0 rfl) ?_
        refine lv_iload hx hb d_F_firstOne_27 (lv_at hl 2 rfl) ?_
        refine xr_lald hx hb hw h2 d_F_firstOne_29 ?_
        refine lv_lconst (v := 0) hx hb d_F_firstOne_30 (by decide) ?_
        refine W.lcmp hx hb d_F_firstOne_31 ?_
        refine lv_if_eq (tgt := 49) hx hb d_F_firstOne_32 (by decide) (fun c9 => absurd c9 hc3) (fun _ => ?_)
        exact w9 p e s m args below meth c A H locs ls F hw (lv_sub hl [0, 2] rfl)
set_option maxRecDepth 100000 in
set_option maxHeartbeats 4000000 in
theorem t_F_firstOne_J35 (l : Launch) (Z : XZ) (u0 : PS) {K : Int32 → PS → Prop} (x2 : Nat) (x4 : Int32) (u : PS) (k : (p_F_firstOne_J35 K x2 x4 u)) : XN l Z i_F_firstOne u0 (kI K) u 35 [(2, .ref x2), (4, .int x4)] [] := by
  unfold p_F_firstOne_J35 at k
  obtain ⟨z_23, h1, k⟩ := k
  obtain ⟨_, u_24, ⟨r_25, rfl, k⟩, hM2⟩ := c_JL_numberOfTrailingZeros l Z z_23 u _ k
  have hle_u_24 : x_le u_24 u_24 := x_le.rf u_24
  have hle_u : x_le u u_24 := (hM2.1).tr hle_u_24
  refine ⟨some (.int ((x4 <<< ((6 : Int32) &&& 31)) + r_25)), u_24, ⟨((x4 <<< ((6 : Int32) &&& 31)) + r_25), rfl, k⟩, hle_u, ?_⟩
  intro p e s m args below meth c A H locs ls F hw hl
  obtain ⟨⟨hx, hb, hml, hown, hts⟩, hr, hlocks, hmn⟩ := id F
  refine lv_iload hx hb d_F_firstOne_35 (lv_at hl 1 rfl) ?_
  refine lv_bipush (v := 6) hx hb d_F_firstOne_37 (by decide) ?_
  refine lv_ishl hx hb d_F_firstOne_39 ?_
  refine lv_aload_n hx hb d_F_firstOne_40 rfl (lv_at hl 0 rfl) ?_
  refine lv_iload hx hb d_F_firstOne_41 (lv_at hl 1 rfl) ?_
  refine xr_lald hx hb hw h1 d_F_firstOne_43 ?_
  refine xr_cS (As := [.long z_23]) (rest := [.int (x4 <<< ((6 : Int32) &&& 31))]) ⟨hx, hb, hml, hown, hts⟩ hw hM2 hle_u_24 (fun _ _ => ⟨callB_of 1 hts (xgood w_813) rfl rfl rfl (hts _ (xm w_16)) (hts _ (xm w_811)) ⟨by decide, by decide, by decide +kernel⟩ ⟨Nat.le_of_ble_eq_true rfl, Nat.le_of_ble_eq_true rfl⟩, (hts _ (xm w_812))⟩) rfl hl.1 rfl (Nat.le_of_ble_eq_true rfl) d_F_firstOne_44 (fun H locs hw => ?_)
  refine W.eq (g2 := F0 m 47 ls [.int r_25, .int (x4 <<< ((6 : Int32) &&& 31))]) rfl ?_
  refine lv_iadd hx hb d_F_firstOne_47 ?_
  exact xr_iret F rfl hw d_F_firstOne_48
set_option maxRecDepth 100000 in
set_option maxHeartbeats 4000000 in
theorem c_F_firstOne (l : Launch) (Z : XZ) (x0 : Nat) (x1 : Int32) (u : PS) (K : Int32 → PS → Prop) (k : p_F_firstOne x0 x1 u K) : ∃ (rv : Option Value) (u1 : PS), (kI K) rv u1 ∧ XMet l Z i_F_firstOne [.ref x0, .int x1] u rv u1 := by
  refine x_met (by decide) rfl (Nat.le_of_ble_eq_true rfl) ?_
  show XN l Z i_F_firstOne u (kI K) u 0 [(0, .ref x0), (1, .int x1)] []
  unfold p_F_firstOne at k
  obtain ⟨z_16, h1, k⟩ := k
  obtain ⟨z_17, h2, k⟩ := k
  obtain ⟨h4, k⟩ := k
  obtain ⟨_, u_18, ⟨r_19, rfl, k⟩, hM3⟩ := c_F_keptWords l Z x0 x1 u _ k
  obtain ⟨_, u_20, ⟨r_21, rfl, k⟩, hM5⟩ := c_F_leftOut l Z r_19 u_18 _ k
  obtain ⟨n6, k⟩ := k
  have hx9 : ∀ (y4_7 : Int32) (v8 : PS), (p_F_firstOne_J35 K z_17 y4_7 v8) → XN l Z i_F_firstOne u (kI K) v8 35 [(2, .ref z_17), (4, .int y4_7)] [] := by
    intro y4_7 v8 k
    obtain ⟨rv, v9, hK, hle_v8, w9⟩ := t_F_firstOne_J35 l Z u z_17 y4_7 v8 k
    refine ⟨rv, v9, hK, hle_v8, ?_⟩
    intro p e s m args below meth c A H locs ls F hw hl
    obtain ⟨⟨hx, hb, hml, hown, hts⟩, hr, hlocks, hmn⟩ := id F
    exact w9 p e s m args below meth c A H locs ls F hw (lv_sub hl [0, 1] rfl)
  have hx11 : ∀ (v10 : PS), (K (-1 : Int32) v10) → XN l Z i_F_firstOne u (kI K) v10 64 [] [] := by
    intro v10 k
    have hle_v10 : x_le v10 v10 := x_le.rf v10
    refine ⟨some (.int (-1)), v10, ⟨(-1 : Int32), rfl, k⟩, hle_v10, ?_⟩
    intro p e s m args below meth c A H locs ls F hw hl
    obtain ⟨⟨hx, hb, hml, hown, hts⟩, hr, hlocks, hmn⟩ := id F
    refine lv_iconst (v := (-1)) hx hb d_F_firstOne_64 (by decide) ?_
    exact xr_iret F rfl hw d_F_firstOne_65
  obtain ⟨rv, v9, hK, hle_u_20, w9⟩ := t_F_firstOne_L19 l Z u z_17 r_21 hx9 hx11 n6 (0 : Int32) u_20 k
  have hle_u_18 : x_le u_18 v9 := (hM5.1).tr hle_u_20
  have hle_u : x_le u v9 := (hM3.1).tr hle_u_18
  refine ⟨rv, v9, hK, hle_u, ?_⟩
  intro p e s m args below meth c A H locs ls F hw hl
  obtain ⟨⟨hx, hb, hml, hown, hts⟩, hr, hlocks, hmn⟩ := id F
  refine lv_aload_n hx hb d_F_firstOne_0 rfl (lv_at hl 0 rfl) ?_
  refine xr_get hx hb hts (xmu uws_F) hown hw h1 rfl (by decide) (hts _ (xm w_34)) (fun _ h9 => h9) d_F_firstOne_1 ?_
  refine lv_iload_n hx hb d_F_firstOne_4 rfl (lv_at hl 1 rfl) ?_
  refine xr_aald hx hb hw rfl h2 d_F_firstOne_5 ?_
  refine lv_astore_n (lv' := [(2, .ref z_17), (0, .ref x0), (1, .int x1)]) hx hb d_F_firstOne_6 rfl hl (by decide) rfl (fun ls hl => ?_)
  refine lv_aload_n hx hb d_F_firstOne_7 rfl (lv_at hl 1 rfl) ?_
  refine lv_iload_n hx hb d_F_firstOne_8 rfl (lv_at hl 2 rfl) ?_
  refine xr_cV (As := [.int x1]) (rest := []) ⟨hx, hb, hml, hown, hts⟩ hw hM3 hle_u_18 (fun _ _ => ⟨callB_of 1 hts (xgood w_264) rfl rfl rfl (hts _ (xm w_2)) (hts _ (xm w_261)) ⟨by decide, by decide, by decide +kernel⟩ ⟨Nat.le_of_ble_eq_true rfl, Nat.le_of_ble_eq_true rfl⟩, (hts _ (xm w_263)), (hts _ (xm wp_1))⟩) (qc := (R_F, F_F, 5)) rfl rfl h4 rfl hl.1 rfl (Nat.le_of_ble_eq_true rfl) d_F_firstOne_9 (fun H locs hw => ?_)
  refine W.eq (g2 := F0 m 12 ls [.int r_19]) rfl ?_
  refine xr_cS (As := [.int r_19]) (rest := []) ⟨hx, hb, hml, hown, hts⟩ hw hM5 hle_u_20 (fun _ _ => ⟨callB_of 1 hts (xgood w_267) rfl rfl rfl (hts _ (xm w_2)) (hts _ (xm w_265)) ⟨by decide, by decide, by decide +kernel⟩ ⟨Nat.le_of_ble_eq_true rfl, Nat.le_of_ble_eq_true rfl⟩, (hts _ (xm w_266))⟩) rfl hl.1 rfl (Nat.le_of_ble_eq_true rfl) d_F_firstOne_12 (fun H locs hw => ?_)
  refine W.eq (g2 := F0 m 15 ls [.int r_21]) rfl ?_
  refine lv_istore_n (lv' := [(3, .int r_21), (2, .ref z_17), (0, .ref x0), (1, .int x1)]) hx hb d_F_firstOne_15 rfl hl (by decide) rfl (fun ls hl => ?_)
  refine lv_iconst (v := 0) hx hb d_F_firstOne_16 (by decide) ?_
  refine lv_istore (lv' := [(4, .int 0), (3, .int r_21), (2, .ref z_17), (0, .ref x0), (1, .int x1)]) hx hb d_F_firstOne_17 hl (by decide) rfl (fun ls hl => ?_)
  exact w9 p e s m args below meth c A H locs ls F hw (lv_sub hl [2, 1, 0] rfl)
set_option maxRecDepth 100000 in
set_option maxHeartbeats 4000000 in
theorem t_F_areSame_L42 (l : Launch) (Z : XZ) (u0 : PS) {Kv : Option Value → PS → Prop} {E68 : PS → Prop} {E87 : PS → Prop} (x3 : Nat) (x4 : Nat) (x5 : Int32) (x6 : Int32) (x7 : Int32) (hE68 : ∀ (v : PS), E68 v → XN l Z i_F_areSame u0 Kv v 68 [] []) (hE87 : ∀ (v : PS), E87 v → XN l Z i_F_areSame u0 Kv v 87 [] []) : ∀ (n : Nat) (x8 : Int32) (u : PS), p_F_areSame_L42 x3 x4 x5 x6 x7 E68 E87 n x8 u → XN l Z i_F_areSame u0 Kv u 42 [(3, .ref x3), (4, .ref x4), (5, .int x5), (6, .int x6), (7, .int x7), (8, .int x8)] [] := by
  intro n
  induction n with
  | zero => intro x8 u k; exact False.elim k
  | succ n ih =>
    intro x8 u k
    rw [p_F_areSame_L42] at k
    by_cases hc1 : 16 ≤ x8
    · have k := k.1 hc1
      obtain ⟨rv, v9, hK, hle_u, w9⟩ := hE87 u k
      refine ⟨rv, v9, hK, hle_u, ?_⟩
      intro p e s m args below meth c A H locs ls F hw hl
      obtain ⟨⟨hx, hb, hml, hown, hts⟩, hr, hlocks, hmn⟩ := id F
      refine lv_iload hx hb d_F_areSame_42 (lv_at hl 5 rfl) ?_
      refine lv_bipush (v := 16) hx hb d_F_areSame_44 (by decide) ?_
      refine lv_icmp_ge (tgt := 87) hx hb d_F_areSame_46 (by decide) (fun _ => ?_) (fun c9 => absurd hc1 c9)
      exact w9 p e s m args below meth c A H locs ls F hw (lv_sub hl [] rfl)
    · have k := k.2 hc1
      obtain ⟨z_27, h2, k⟩ := k
      obtain ⟨z_28, h3, k⟩ := k
      by_cases hc4 : (lg_cmp z_27 z_28) = 0
      · have k := k.1 hc4
        obtain ⟨y5, ey5⟩ : ∃ y9 : Int32, y9 = (((x8 ||| x7) + (1 : Int32)) &&& (x7 ^^^ (-1 : Int32))) := ⟨_, rfl⟩
        have k := k y5 ey5
        obtain ⟨rv, v9, hK, hle_u, w9⟩ := ih y5 u k
        refine ⟨rv, v9, hK, hle_u, ?_⟩
        intro p e s m args below meth c A H locs ls F hw hl
        obtain ⟨⟨hx, hb, hml, hown, hts⟩, hr, hlocks, hmn⟩ := id F
        refine lv_iload hx hb d_F_areSame_42 (lv_at hl 5 rfl) ?_
        refine lv_bipush (v := 16) hx hb d_F_areSame_44 (by decide) ?_
        refine lv_icmp_ge (tgt := 87) hx hb d_F_areSame_46 (by decide) (fun c9 => absurd c9 hc1) (fun _ => ?_)
        refine lv_aload_n hx hb d_F_areSame_49 rfl (lv_at hl 0 rfl) ?_
        refine lv_iload hx hb d_F_areSame_50 (lv_at hl 5 rfl) ?_
        refine lv_iload hx hb d_F_areSame_52 (lv_at hl 2 rfl) ?_
        refine lv_iand hx hb d_F_areSame_54 ?_
        refine xr_lald hx hb hw h2 d_F_areSame_55 ?_
        refine lv_aload hx hb d_F_areSame_56 (lv_at hl 1 rfl) ?_
        refine lv_iload hx hb d_F_areSame_58 (lv_at hl 5 rfl) ?_
        refine lv_iload hx hb d_F_areSame_60 (lv_at hl 3 rfl) ?_
        refine lv_iand hx hb d_F_areSame_62 ?_
        refine xr_lald hx hb hw h3 d_F_areSame_63 ?_
        refine W.lcmp hx hb d_F_areSame_64 ?_
        refine lv_if_eq (tgt := 70) hx hb d_F_areSame_65 (by decide) (fun _ => ?_) (fun c9 => absurd hc4 c9)
        refine lv_iload hx hb d_F_areSame_70 (lv_at hl 5 rfl) ?_
        refine lv_iload hx hb d_F_areSame_72 (lv_at hl 4 rfl) ?_
        refine lv_ior hx hb d_F_areSame_74 ?_
        refine lv_iconst (v := 1) hx hb d_F_areSame_75 (by decide) ?_
        refine lv_iadd hx hb d_F_areSame_76 ?_
        refine lv_iload hx hb d_F_areSame_77 (lv_at hl 4 rfl) ?_
        refine lv_iconst (v := (-1)) hx hb d_F_areSame_79 (by decide) ?_
        refine lv_ixor hx hb d_F_areSame_80 ?_
        refine lv_iand hx hb d_F_areSame_81 ?_
        refine lv_istore (lv' := [(8, .int y5), (3, .ref x3), (4, .ref x4), (5, .int x5), (6, .int x6), (7, .int x7)]) hx hb d_F_areSame_82 hl (by decide) (by subst ey5; rfl) (fun ls hl => ?_)
        refine lv_goto (tgt := 42) hx hb d_F_areSame_84 (by decide) ?_
        exact w9 p e s m args below meth c A H locs ls F hw (lv_sub hl [1, 2, 3, 4, 5, 0] rfl)
      · have k := k.2 hc4
        obtain ⟨rv, v9, hK, hle_u, w9⟩ := hE68 u k
        refine ⟨rv, v9, hK, hle_u, ?_⟩
        intro p e s m args below meth c A H locs ls F hw hl
        obtain ⟨⟨hx, hb, hml, hown, hts⟩, hr, hlocks, hmn⟩ := id F
        refine lv_iload hx hb d_F_areSame_42 (lv_at hl 5 rfl) ?_
        refine lv_bipush (v := 16) hx hb d_F_areSame_44 (by decide) ?_
        refine lv_icmp_ge (tgt := 87) hx hb d_F_areSame_46 (by decide) (fun c9 => absurd c9 hc1) (fun _ => ?_)
        refine lv_aload_n hx hb d_F_areSame_49 rfl (lv_at hl 0 rfl) ?_
        refine lv_iload hx hb d_F_areSame_50 (lv_at hl 5 rfl) ?_
        refine lv_iload hx hb d_F_areSame_52 (lv_at hl 2 rfl) ?_
        refine lv_iand hx hb d_F_areSame_54 ?_
        refine xr_lald hx hb hw h2 d_F_areSame_55 ?_
        refine lv_aload hx hb d_F_areSame_56 (lv_at hl 1 rfl) ?_
        refine lv_iload hx hb d_F_areSame_58 (lv_at hl 5 rfl) ?_
        refine lv_iload hx hb d_F_areSame_60 (lv_at hl 3 rfl) ?_
        refine lv_iand hx hb d_F_areSame_62 ?_
        refine xr_lald hx hb hw h3 d_F_areSame_63 ?_
        refine W.lcmp hx hb d_F_areSame_64 ?_
        refine lv_if_eq (tgt := 70) hx hb d_F_areSame_65 (by decide) (fun c9 => absurd c9 hc4) (fun _ => ?_)
        exact w9 p e s m args below meth c A H locs ls F hw (lv_sub hl [] rfl)
set_option maxRecDepth 100000 in
set_option maxHeartbeats 4000000 in
theorem c_F_areSame (l : Launch) (Z : XZ) (x0 : Nat) (x1 : Int32) (x2 : Int32) (u : PS) (K : Int32 → PS → Prop) (k : p_F_areSame x0 x1 x2 u K) : ∃ (rv : Option Value) (u1 : PS), (kI K) rv u1 ∧ XMet l Z i_F_areSame [.ref x0, .int x1, .int x2] u rv u1 := by
  refine x_met (by decide) rfl (Nat.le_of_ble_eq_true rfl) ?_
  show XN l Z i_F_areSame u (kI K) u 0 [(0, .ref x0), (1, .int x1), (2, .int x2)] []
  unfold p_F_areSame at k
  obtain ⟨z_17, h1, k⟩ := k
  obtain ⟨z_18, h2, k⟩ := k
  obtain ⟨z_19, h3, k⟩ := k
  obtain ⟨z_20, h4, k⟩ := k
  obtain ⟨h6, k⟩ := k
  obtain ⟨_, u_21, ⟨r_22, rfl, k⟩, hM5⟩ := c_F_keptWords l Z x0 x1 u _ k
  obtain ⟨h8, k⟩ := k
  obtain ⟨_, u_23, ⟨r_24, rfl, k⟩, hM7⟩ := c_F_keptWords l Z x0 x2 u_21 _ k
  obtain ⟨_, u_25, ⟨r_26, rfl, k⟩, hM9⟩ := c_F_leftOut l Z (r_22 ||| r_24) u_23 _ k
  obtain ⟨n10, k⟩ := k
  have hx12 : ∀ (v11 : PS), (xZ (0 : Int32) ∧ K (0 : Int32) v11) → XN l Z i_F_areSame u (kI K) v11 68 [] [] := by
    intro v11 k
    obtain ⟨hz9, k⟩ := k
    have hle_v11 : x_le v11 v11 := x_le.rf v11
    refine ⟨some (.int 0), v11, ⟨(0 : Int32), rfl, k⟩, hle_v11, ?_⟩
    intro p e s m args below meth c A H locs ls F hw hl
    obtain ⟨⟨hx, hb, hml, hown, hts⟩, hr, hlocks, hmn⟩ := id F
    refine lv_iconst (v := 0) hx hb d_F_areSame_68 (by decide) ?_
    exact xr_zret F rfl hz9 hw d_F_areSame_69
  have hx14 : ∀ (v13 : PS), (xZ (1 : Int32) ∧ K (1 : Int32) v13) → XN l Z i_F_areSame u (kI K) v13 87 [] [] := by
    intro v13 k
    obtain ⟨hz9, k⟩ := k
    have hle_v13 : x_le v13 v13 := x_le.rf v13
    refine ⟨some (.int 1), v13, ⟨(1 : Int32), rfl, k⟩, hle_v13, ?_⟩
    intro p e s m args below meth c A H locs ls F hw hl
    obtain ⟨⟨hx, hb, hml, hown, hts⟩, hr, hlocks, hmn⟩ := id F
    refine lv_iconst (v := 1) hx hb d_F_areSame_87 (by decide) ?_
    exact xr_zret F rfl hz9 hw d_F_areSame_88
  obtain ⟨rv, v9, hK, hle_u_25, w9⟩ := t_F_areSame_L42 l Z u z_18 z_20 r_22 r_24 r_26 hx12 hx14 n10 (0 : Int32) u_25 k
  have hle_u_23 : x_le u_23 v9 := (hM9.1).tr hle_u_25
  have hle_u_21 : x_le u_21 v9 := (hM7.1).tr hle_u_23
  have hle_u : x_le u v9 := (hM5.1).tr hle_u_21
  refine ⟨rv, v9, hK, hle_u, ?_⟩
  intro p e s m args below meth c A H locs ls F hw hl
  obtain ⟨⟨hx, hb, hml, hown, hts⟩, hr, hlocks, hmn⟩ := id F
  refine lv_aload_n hx hb d_F_areSame_0 rfl (lv_at hl 0 rfl) ?_
  refine xr_get hx hb hts (xmu uws_F) hown hw h1 rfl (by decide) (hts _ (xm w_34)) (fun _ h9 => h9) d_F_areSame_1 ?_
  refine lv_iload_n hx hb d_F_areSame_4 rfl (lv_at hl 1 rfl) ?_
  refine xr_aald hx hb hw rfl h2 d_F_areSame_5 ?_
  refine lv_astore_n (lv' := [(3, .ref z_18), (0, .ref x0), (1, .int x1), (2, .int x2)]) hx hb d_F_areSame_6 rfl hl (by decide) rfl (fun ls hl => ?_)
  refine lv_aload_n hx hb d_F_areSame_7 rfl (lv_at hl 1 rfl) ?_
  refine xr_get hx hb hts (xmu uws_F) hown hw h3 rfl (by decide) (hts _ (xm w_34)) (fun _ h9 => h9) d_F_areSame_8 ?_
  refine lv_iload_n hx hb d_F_areSame_11 rfl (lv_at hl 3 rfl) ?_
  refine xr_aald hx hb hw rfl h4 d_F_areSame_12 ?_
  refine lv_astore (lv' := [(4, .ref z_20), (3, .ref z_18), (0, .ref x0), (1, .int x1), (2, .int x2)]) hx hb d_F_areSame_13 hl (by decide) rfl (fun ls hl => ?_)
  refine lv_aload_n hx hb d_F_areSame_15 rfl (lv_at hl 2 rfl) ?_
  refine lv_iload_n hx hb d_F_areSame_16 rfl (lv_at hl 3 rfl) ?_
  refine xr_cV (As := [.int x1]) (rest := []) ⟨hx, hb, hml, hown, hts⟩ hw hM5 hle_u_21 (fun _ _ => ⟨callB_of 1 hts (xgood w_264) rfl rfl rfl (hts _ (xm w_2)) (hts _ (xm w_261)) ⟨by decide, by decide, by decide +kernel⟩ ⟨Nat.le_of_ble_eq_true rfl, Nat.le_of_ble_eq_true rfl⟩, (hts _ (xm w_263)), (hts _ (xm wp_1))⟩) (qc := (R_F, F_F, 5)) rfl rfl h6 rfl hl.1 rfl (Nat.le_of_ble_eq_true rfl) d_F_areSame_17 (fun H locs hw => ?_)
  refine W.eq (g2 := F0 m 20 ls [.int r_22]) rfl ?_
  refine lv_istore (lv' := [(5, .int r_22), (4, .ref z_20), (3, .ref z_18), (0, .ref x0), (1, .int x1), (2, .int x2)]) hx hb d_F_areSame_20 hl (by decide) rfl (fun ls hl => ?_)
  refine lv_aload_n hx hb d_F_areSame_22 rfl (lv_at hl 3 rfl) ?_
  refine lv_iload_n hx hb d_F_areSame_23 rfl (lv_at hl 5 rfl) ?_
  refine xr_cV (As := [.int x2]) (rest := []) ⟨hx, hb, hml, hown, hts⟩ hw hM7 hle_u_23 (fun _ _ => ⟨callB_of 1 hts (xgood w_264) rfl rfl rfl (hts _ (xm w_2)) (hts _ (xm w_261)) ⟨by decide, by decide, by decide +kernel⟩ ⟨Nat.le_of_ble_eq_true rfl, Nat.le_of_ble_eq_true rfl⟩, (hts _ (xm w_263)), (hts _ (xm wp_1))⟩) (qc := (R_F, F_F, 5)) rfl rfl h8 rfl hl.1 rfl (Nat.le_of_ble_eq_true rfl) d_F_areSame_24 (fun H locs hw => ?_)
  refine W.eq (g2 := F0 m 27 ls [.int r_24]) rfl ?_
  refine lv_istore (lv' := [(6, .int r_24), (5, .int r_22), (4, .ref z_20), (3, .ref z_18), (0, .ref x0), (1, .int x1), (2, .int x2)]) hx hb d_F_areSame_27 hl (by decide) rfl (fun ls hl => ?_)
  refine lv_iload hx hb d_F_areSame_29 (lv_at hl 1 rfl) ?_
  refine lv_iload hx hb d_F_areSame_31 (lv_at hl 0 rfl) ?_
  refine lv_ior hx hb d_F_areSame_33 ?_
  refine xr_cS (As := [.int (r_22 ||| r_24)]) (rest := []) ⟨hx, hb, hml, hown, hts⟩ hw hM9 hle_u_25 (fun _ _ => ⟨callB_of 1 hts (xgood w_267) rfl rfl rfl (hts _ (xm w_2)) (hts _ (xm w_265)) ⟨by decide, by decide, by decide +kernel⟩ ⟨Nat.le_of_ble_eq_true rfl, Nat.le_of_ble_eq_true rfl⟩, (hts _ (xm w_266))⟩) rfl hl.1 rfl (Nat.le_of_ble_eq_true rfl) d_F_areSame_34 (fun H locs hw => ?_)
  refine W.eq (g2 := F0 m 37 ls [.int r_26]) rfl ?_
  refine lv_istore (lv' := [(7, .int r_26), (6, .int r_24), (5, .int r_22), (4, .ref z_20), (3, .ref z_18), (0, .ref x0), (1, .int x1), (2, .int x2)]) hx hb d_F_areSame_37 hl (by decide) rfl (fun ls hl => ?_)
  refine lv_iconst (v := 0) hx hb d_F_areSame_39 (by decide) ?_
  refine lv_istore (lv' := [(8, .int 0), (7, .int r_26), (6, .int r_24), (5, .int r_22), (4, .ref z_20), (3, .ref z_18), (0, .ref x0), (1, .int x1), (2, .int x2)]) hx hb d_F_areSame_40 hl (by decide) rfl (fun ls hl => ?_)
  exact w9 p e s m args below meth c A H locs ls F hw (lv_sub hl [5, 4, 3, 2, 1, 0] rfl)
set_option maxRecDepth 100000 in
set_option maxHeartbeats 4000000 in
theorem t_F_dependsWithinWords_L18 (l : Launch) (Z : XZ) (u0 : PS) {Kv : Option Value → PS → Prop} {E44 : PS → Prop} {E61 : PS → Prop} (x0 : Nat) (x1 : Int32) (x3 : Int64) (x5 : Int32) (hE44 : ∀ (v : PS), E44 v → XN l Z i_F_dependsWithinWords u0 Kv v 44 [] []) (hE61 : ∀ (v : PS), E61 v → XN l Z i_F_dependsWithinWords u0 Kv v 61 [] []) : ∀ (n : Nat) (x6 : Int32) (u : PS), p_F_dependsWithinWords_L18 x0 x1 x3 x5 E44 E61 n x6 u → XN l Z i_F_dependsWithinWords u0 Kv u 18 [(0, .ref x0), (1, .int x1), (3, .long x3), (5, .int x5), (6, .int x6)] [] := by
  intro n
  induction n with
  | zero => intro x6 u k; exact False.elim k
  | succ n ih =>
    intro x6 u k
    rw [p_F_dependsWithinWords_L18] at k
    by_cases hc1 : 16 ≤ x6
    · have k := k.1 hc1
      obtain ⟨rv, v9, hK, hle_u, w9⟩ := hE61 u k
      refine ⟨rv, v9, hK, hle_u, ?_⟩
      intro p e s m args below meth c A H locs ls F hw hl
      obtain ⟨⟨hx, hb, hml, hown, hts⟩, hr, hlocks, hmn⟩ := id F
      refine lv_iload hx hb d_F_dependsWithinWords_18 (lv_at hl 4 rfl) ?_
      refine lv_bipush (v := 16) hx hb d_F_dependsWithinWords_20 (by decide) ?_
      refine lv_icmp_ge (tgt := 61) hx hb d_F_dependsWithinWords_22 (by decide) (fun _ => ?_) (fun c9 => absurd hc1 c9)
      exact w9 p e s m args below meth c A H locs ls F hw (lv_sub hl [] rfl)
    · have k := k.2 hc1
      obtain ⟨z_11, h2, k⟩ := k
      obtain ⟨z_12, h3, k⟩ := k
      by_cases hc4 : (lg_cmp ((z_11 ^^^ ((z_12.toUInt64 >>> (x5.toInt64.toUInt64 &&& Int64.toUInt64 63)).toInt64)) &&& x3) (0 : Int64)) = 0
      · have k := k.1 hc4
        obtain ⟨y5, ey5⟩ : ∃ y9 : Int32, y9 = (((x6 ||| x1) + (1 : Int32)) &&& (x1 ^^^ (-1 : Int32))) := ⟨_, rfl⟩
        have k := k y5 ey5
        obtain ⟨rv, v9, hK, hle_u, w9⟩ := ih y5 u k
        refine ⟨rv, v9, hK, hle_u, ?_⟩
        intro p e s m args below meth c A H locs ls F hw hl
        obtain ⟨⟨hx, hb, hml, hown, hts⟩, hr, hlocks, hmn⟩ := id F
        refine lv_iload hx hb d_F_dependsWithinWords_18 (lv_at hl 4 rfl) ?_
        refine lv_bipush (v := 16) hx hb d_F_dependsWithinWords_20 (by decide) ?_
        refine lv_icmp_ge (tgt := 61) hx hb d_F_dependsWithinWords_22 (by decide) (fun c9 => absurd c9 hc1) (fun _ => ?_)
        refine lv_aload_n hx hb d_F_dependsWithinWords_25 rfl (lv_at hl 0 rfl) ?_
        refine lv_iload hx hb d_F_dependsWithinWords_26 (lv_at hl 4 rfl) ?_
        refine xr_lald hx hb hw h2 d_F_dependsWithinWords_28 ?_
        refine lv_aload_n hx hb d_F_dependsWithinWords_29 rfl (lv_at hl 0 rfl) ?_
        refine lv_iload hx hb d_F_dependsWithinWords_30 (lv_at hl 4 rfl) ?_
        refine xr_lald hx hb hw h3 d_F_dependsWithinWords_32 ?_
        refine lv_iload hx hb d_F_dependsWithinWords_33 (lv_at hl 3 rfl) ?_
        refine lv_lushr hx hb d_F_dependsWithinWords_35 rfl ?_
        refine lv_lxor hx hb d_F_dependsWithinWords_36 ?_
        refine lv_lload_n hx hb d_F_dependsWithinWords_37 rfl (lv_at hl 2 rfl) ?_
        refine lv_land hx hb d_F_dependsWithinWords_38 ?_
        refine lv_lconst (v := 0) hx hb d_F_dependsWithinWords_39 (by decide) ?_
        refine W.lcmp hx hb d_F_dependsWithinWords_40 ?_
        refine lv_if_eq (tgt := 46) hx hb d_F_dependsWithinWords_41 (by decide) (fun _ => ?_) (fun c9 => absurd hc4 c9)
        refine lv_iload hx hb d_F_dependsWithinWords_46 (lv_at hl 4 rfl) ?_
        refine lv_iload_n hx hb d_F_dependsWithinWords_48 rfl (lv_at hl 1 rfl) ?_
        refine lv_ior hx hb d_F_dependsWithinWords_49 ?_
        refine lv_iconst (v := 1) hx hb d_F_dependsWithinWords_50 (by decide) ?_
        refine lv_iadd hx hb d_F_dependsWithinWords_51 ?_
        refine lv_iload_n hx hb d_F_dependsWithinWords_52 rfl (lv_at hl 1 rfl) ?_
        refine lv_iconst (v := (-1)) hx hb d_F_dependsWithinWords_53 (by decide) ?_
        refine lv_ixor hx hb d_F_dependsWithinWords_54 ?_
        refine lv_iand hx hb d_F_dependsWithinWords_55 ?_
        refine lv_istore (lv' := [(6, .int y5), (0, .ref x0), (1, .int x1), (3, .long x3), (5, .int x5)]) hx hb d_F_dependsWithinWords_56 hl (by decide) (by subst ey5; rfl) (fun ls hl => ?_)
        refine lv_goto (tgt := 18) hx hb d_F_dependsWithinWords_58 (by decide) ?_
        exact w9 p e s m args below meth c A H locs ls F hw (lv_sub hl [1, 2, 3, 4, 0] rfl)
      · have k := k.2 hc4
        obtain ⟨rv, v9, hK, hle_u, w9⟩ := hE44 u k
        refine ⟨rv, v9, hK, hle_u, ?_⟩
        intro p e s m args below meth c A H locs ls F hw hl
        obtain ⟨⟨hx, hb, hml, hown, hts⟩, hr, hlocks, hmn⟩ := id F
        refine lv_iload hx hb d_F_dependsWithinWords_18 (lv_at hl 4 rfl) ?_
        refine lv_bipush (v := 16) hx hb d_F_dependsWithinWords_20 (by decide) ?_
        refine lv_icmp_ge (tgt := 61) hx hb d_F_dependsWithinWords_22 (by decide) (fun c9 => absurd c9 hc1) (fun _ => ?_)
        refine lv_aload_n hx hb d_F_dependsWithinWords_25 rfl (lv_at hl 0 rfl) ?_
        refine lv_iload hx hb d_F_dependsWithinWords_26 (lv_at hl 4 rfl) ?_
        refine xr_lald hx hb hw h2 d_F_dependsWithinWords_28 ?_
        refine lv_aload_n hx hb d_F_dependsWithinWords_29 rfl (lv_at hl 0 rfl) ?_
        refine lv_iload hx hb d_F_dependsWithinWords_30 (lv_at hl 4 rfl) ?_
        refine xr_lald hx hb hw h3 d_F_dependsWithinWords_32 ?_
        refine lv_iload hx hb d_F_dependsWithinWords_33 (lv_at hl 3 rfl) ?_
        refine lv_lushr hx hb d_F_dependsWithinWords_35 rfl ?_
        refine lv_lxor hx hb d_F_dependsWithinWords_36 ?_
        refine lv_lload_n hx hb d_F_dependsWithinWords_37 rfl (lv_at hl 2 rfl) ?_
        refine lv_land hx hb d_F_dependsWithinWords_38 ?_
        refine lv_lconst (v := 0) hx hb d_F_dependsWithinWords_39 (by decide) ?_
        refine W.lcmp hx hb d_F_dependsWithinWords_40 ?_
        refine lv_if_eq (tgt := 46) hx hb d_F_dependsWithinWords_41 (by decide) (fun c9 => absurd c9 hc4) (fun _ => ?_)
        exact w9 p e s m args below meth c A H locs ls F hw (lv_sub hl [] rfl)
set_option maxRecDepth 100000 in
set_option maxHeartbeats 4000000 in
theorem c_F_dependsWithinWords (l : Launch) (Z : XZ) (x0 : Nat) (x1 : Int32) (x2 : Int32) (u : PS) (K : Int32 → PS → Prop) (k : p_F_dependsWithinWords x0 x1 x2 u K) : ∃ (rv : Option Value) (u1 : PS), (kI K) rv u1 ∧ XMet l Z i_F_dependsWithinWords [.ref x0, .int x1, .int x2] u rv u1 := by
  refine x_met (by decide) rfl (Nat.le_of_ble_eq_true rfl) ?_
  show XN l Z i_F_dependsWithinWords u (kI K) u 0 [(0, .ref x0), (1, .int x1), (2, .int x2)] []
  unfold p_F_dependsWithinWords at k
  obtain ⟨h1, k⟩ := k
  obtain ⟨y2, ey2⟩ : ∃ y9 : Int64, y9 = ((tab_ONES x2.toNatClampNeg) ^^^ (-1 : Int64)) := ⟨_, rfl⟩
  have k := k y2 ey2
  obtain ⟨y3, ey3⟩ : ∃ y9 : Int32, y9 = ((1 : Int32) <<< (x2 &&& 31)) := ⟨_, rfl⟩
  have k := k y3 ey3
  obtain ⟨n4, k⟩ := k
  have hx6 : ∀ (v5 : PS), (xZ (1 : Int32) ∧ K (1 : Int32) v5) → XN l Z i_F_dependsWithinWords u (kI K) v5 44 [] [] := by
    intro v5 k
    obtain ⟨hz9, k⟩ := k
    have hle_v5 : x_le v5 v5 := x_le.rf v5
    refine ⟨some (.int 1), v5, ⟨(1 : Int32), rfl, k⟩, hle_v5, ?_⟩
    intro p e s m args below meth c A H locs ls F hw hl
    obtain ⟨⟨hx, hb, hml, hown, hts⟩, hr, hlocks, hmn⟩ := id F
    refine lv_iconst (v := 1) hx hb d_F_dependsWithinWords_44 (by decide) ?_
    exact xr_zret F rfl hz9 hw d_F_dependsWithinWords_45
  have hx8 : ∀ (v7 : PS), (xZ (0 : Int32) ∧ K (0 : Int32) v7) → XN l Z i_F_dependsWithinWords u (kI K) v7 61 [] [] := by
    intro v7 k
    obtain ⟨hz9, k⟩ := k
    have hle_v7 : x_le v7 v7 := x_le.rf v7
    refine ⟨some (.int 0), v7, ⟨(0 : Int32), rfl, k⟩, hle_v7, ?_⟩
    intro p e s m args below meth c A H locs ls F hw hl
    obtain ⟨⟨hx, hb, hml, hown, hts⟩, hr, hlocks, hmn⟩ := id F
    refine lv_iconst (v := 0) hx hb d_F_dependsWithinWords_61 (by decide) ?_
    exact xr_zret F rfl hz9 hw d_F_dependsWithinWords_62
  obtain ⟨rv, v9, hK, hle_u, w9⟩ := t_F_dependsWithinWords_L18 l Z u x0 x1 y2 y3 hx6 hx8 n4 (0 : Int32) u k
  refine ⟨rv, v9, hK, hle_u, ?_⟩
  intro p e s m args below meth c A H locs ls F hw hl
  obtain ⟨⟨hx, hb, hml, hown, hts⟩, hr, hlocks, hmn⟩ := id F
  refine va_gets hx hb (XG.z_ONES hw.2.2.2.2.2.1) hw.2.2.2.1 hown (hts _ (xm w_271)) (fun _ h9 => h9) d_F_dependsWithinWords_0 ?_
  refine lv_iload_n hx hb d_F_dependsWithinWords_3 rfl (lv_at hl 2 rfl) ?_
  refine va_tl hx hb (XG.t_ONES hw.2.2.2.2.2.1) hw.2.2.2.1 h1 rfl d_F_dependsWithinWords_4 ?_
  refine lv_ldc2 (v := (-1)) hx hb hown (hts _ (xm w_273)) d_F_dependsWithinWords_5 ?_
  refine lv_lxor hx hb d_F_dependsWithinWords_8 ?_
  refine lv_lstore_n (lv' := [(3, .long y2), (0, .ref x0), (1, .int x1), (2, .int x2)]) hx hb d_F_dependsWithinWords_9 rfl hl (by decide) (by subst ey2; rfl) (fun ls hl => ?_)
  refine lv_iconst (v := 1) hx hb d_F_dependsWithinWords_10 (by decide) ?_
  refine lv_iload_n hx hb d_F_dependsWithinWords_11 rfl (lv_at hl 3 rfl) ?_
  refine lv_ishl hx hb d_F_dependsWithinWords_12 ?_
  refine lv_istore (lv' := [(5, .int y3), (3, .long y2), (0, .ref x0), (1, .int x1), (2, .int x2)]) hx hb d_F_dependsWithinWords_13 hl (by decide) (by subst ey3; rfl) (fun ls hl => ?_)
  refine lv_iconst (v := 0) hx hb d_F_dependsWithinWords_15 (by decide) ?_
  refine lv_istore (lv' := [(6, .int 0), (5, .int y3), (3, .long y2), (0, .ref x0), (1, .int x1), (2, .int x2)]) hx hb d_F_dependsWithinWords_16 hl (by decide) rfl (fun ls hl => ?_)
  exact w9 p e s m args below meth c A H locs ls F hw (lv_sub hl [3, 4, 2, 1, 0] rfl)
set_option maxRecDepth 100000 in
set_option maxHeartbeats 4000000 in
theorem t_F_dependsOnWords_L7 (l : Launch) (Z : XZ) (u0 : PS) {Kv : Option Value → PS → Prop} {E28 : PS → Prop} {E45 : PS → Prop} (x0 : Nat) (x2 : Int32) (x3 : Int32) (hE28 : ∀ (v : PS), E28 v → XN l Z i_F_dependsOnWords u0 Kv v 28 [] []) (hE45 : ∀ (v : PS), E45 v → XN l Z i_F_dependsOnWords u0 Kv v 45 [] []) : ∀ (n : Nat) (x4 : Int32) (u : PS), p_F_dependsOnWords_L7 x0 x2 x3 E28 E45 n x4 u → XN l Z i_F_dependsOnWords u0 Kv u 7 [(0, .ref x0), (2, .int x2), (3, .int x3), (4, .int x4)] [] := by
  intro n
  induction n with
  | zero => intro x4 u k; exact False.elim k
  | succ n ih =>
    intro x4 u k
    rw [p_F_dependsOnWords_L7] at k
    by_cases hc1 : 16 ≤ x4
    · have k := k.1 hc1
      obtain ⟨rv, v9, hK, hle_u, w9⟩ := hE45 u k
      refine ⟨rv, v9, hK, hle_u, ?_⟩
      intro p e s m args below meth c A H locs ls F hw hl
      obtain ⟨⟨hx, hb, hml, hown, hts⟩, hr, hlocks, hmn⟩ := id F
      refine lv_iload hx hb d_F_dependsOnWords_7 (lv_at hl 3 rfl) ?_
      refine lv_bipush (v := 16) hx hb d_F_dependsOnWords_9 (by decide) ?_
      refine lv_icmp_ge (tgt := 45) hx hb d_F_dependsOnWords_11 (by decide) (fun _ => ?_) (fun c9 => absurd hc1 c9)
      exact w9 p e s m args below meth c A H locs ls F hw (lv_sub hl [] rfl)
    · have k := k.2 hc1
      obtain ⟨z_8, h2, k⟩ := k
      obtain ⟨z_9, h3, k⟩ := k
      by_cases hc4 : (lg_cmp z_8 z_9) = 0
      · have k := k.1 hc4
        obtain ⟨y5, ey5⟩ : ∃ y9 : Int32, y9 = (((x4 ||| x3) + (1 : Int32)) &&& (x3 ^^^ (-1 : Int32))) := ⟨_, rfl⟩
        have k := k y5 ey5
        obtain ⟨rv, v9, hK, hle_u, w9⟩ := ih y5 u k
        refine ⟨rv, v9, hK, hle_u, ?_⟩
        intro p e s m args below meth c A H locs ls F hw hl
        obtain ⟨⟨hx, hb, hml, hown, hts⟩, hr, hlocks, hmn⟩ := id F
        refine lv_iload hx hb d_F_dependsOnWords_7 (lv_at hl 3 rfl) ?_
        refine lv_bipush (v := 16) hx hb d_F_dependsOnWords_9 (by decide) ?_
        refine lv_icmp_ge (tgt := 45) hx hb d_F_dependsOnWords_11 (by decide) (fun c9 => absurd c9 hc1) (fun _ => ?_)
        refine lv_aload_n hx hb d_F_dependsOnWords_14 rfl (lv_at hl 0 rfl) ?_
        refine lv_iload hx hb d_F_dependsOnWords_15 (lv_at hl 3 rfl) ?_
        refine xr_lald hx hb hw h2 d_F_dependsOnWords_17 ?_
        refine lv_aload_n hx hb d_F_dependsOnWords_18 rfl (lv_at hl 0 rfl) ?_
        refine lv_iload hx hb d_F_dependsOnWords_19 (lv_at hl 3 rfl) ?_
        refine lv_iload_n hx hb d_F_dependsOnWords_21 rfl (lv_at hl 1 rfl) ?_
        refine lv_ior hx hb d_F_dependsOnWords_22 ?_
        refine xr_lald hx hb hw h3 d_F_dependsOnWords_23 ?_
        refine W.lcmp hx hb d_F_dependsOnWords_24 ?_
        refine lv_if_eq (tgt := 30) hx hb d_F_dependsOnWords_25 (by decide) (fun _ => ?_) (fun c9 => absurd hc4 c9)
        refine lv_iload hx hb d_F_dependsOnWords_30 (lv_at hl 3 rfl) ?_
        refine lv_iload_n hx hb d_F_dependsOnWords_32 rfl (lv_at hl 2 rfl) ?_
        refine lv_ior hx hb d_F_dependsOnWords_33 ?_
        refine lv_iconst (v := 1) hx hb d_F_dependsOnWords_34 (by decide) ?_
        refine lv_iadd hx hb d_F_dependsOnWords_35 ?_
        refine lv_iload_n hx hb d_F_dependsOnWords_36 rfl (lv_at hl 2 rfl) ?_
        refine lv_iconst (v := (-1)) hx hb d_F_dependsOnWords_37 (by decide) ?_
        refine lv_ixor hx hb d_F_dependsOnWords_38 ?_
        refine lv_iand hx hb d_F_dependsOnWords_39 ?_
        refine lv_istore (lv' := [(4, .int y5), (0, .ref x0), (2, .int x2), (3, .int x3)]) hx hb d_F_dependsOnWords_40 hl (by decide) (by subst ey5; rfl) (fun ls hl => ?_)
        refine lv_goto (tgt := 7) hx hb d_F_dependsOnWords_42 (by decide) ?_
        exact w9 p e s m args below meth c A H locs ls F hw (lv_sub hl [1, 2, 3, 0] rfl)
      · have k := k.2 hc4
        obtain ⟨rv, v9, hK, hle_u, w9⟩ := hE28 u k
        refine ⟨rv, v9, hK, hle_u, ?_⟩
        intro p e s m args below meth c A H locs ls F hw hl
        obtain ⟨⟨hx, hb, hml, hown, hts⟩, hr, hlocks, hmn⟩ := id F
        refine lv_iload hx hb d_F_dependsOnWords_7 (lv_at hl 3 rfl) ?_
        refine lv_bipush (v := 16) hx hb d_F_dependsOnWords_9 (by decide) ?_
        refine lv_icmp_ge (tgt := 45) hx hb d_F_dependsOnWords_11 (by decide) (fun c9 => absurd c9 hc1) (fun _ => ?_)
        refine lv_aload_n hx hb d_F_dependsOnWords_14 rfl (lv_at hl 0 rfl) ?_
        refine lv_iload hx hb d_F_dependsOnWords_15 (lv_at hl 3 rfl) ?_
        refine xr_lald hx hb hw h2 d_F_dependsOnWords_17 ?_
        refine lv_aload_n hx hb d_F_dependsOnWords_18 rfl (lv_at hl 0 rfl) ?_
        refine lv_iload hx hb d_F_dependsOnWords_19 (lv_at hl 3 rfl) ?_
        refine lv_iload_n hx hb d_F_dependsOnWords_21 rfl (lv_at hl 1 rfl) ?_
        refine lv_ior hx hb d_F_dependsOnWords_22 ?_
        refine xr_lald hx hb hw h3 d_F_dependsOnWords_23 ?_
        refine W.lcmp hx hb d_F_dependsOnWords_24 ?_
        refine lv_if_eq (tgt := 30) hx hb d_F_dependsOnWords_25 (by decide) (fun c9 => absurd c9 hc4) (fun _ => ?_)
        exact w9 p e s m args below meth c A H locs ls F hw (lv_sub hl [] rfl)
set_option maxRecDepth 100000 in
set_option maxHeartbeats 4000000 in
theorem c_F_dependsOnWords (l : Launch) (Z : XZ) (x0 : Nat) (x1 : Int32) (x2 : Int32) (u : PS) (K : Int32 → PS → Prop) (k : p_F_dependsOnWords x0 x1 x2 u K) : ∃ (rv : Option Value) (u1 : PS), (kI K) rv u1 ∧ XMet l Z i_F_dependsOnWords [.ref x0, .int x1, .int x2] u rv u1 := by
  refine x_met (by decide) rfl (Nat.le_of_ble_eq_true rfl) ?_
  show XN l Z i_F_dependsOnWords u (kI K) u 0 [(0, .ref x0), (1, .int x1), (2, .int x2)] []
  unfold p_F_dependsOnWords at k
  obtain ⟨y1, ey1⟩ : ∃ y9 : Int32, y9 = (x1 ||| x2) := ⟨_, rfl⟩
  have k := k y1 ey1
  obtain ⟨n2, k⟩ := k
  have hx4 : ∀ (v3 : PS), (xZ (1 : Int32) ∧ K (1 : Int32) v3) → XN l Z i_F_dependsOnWords u (kI K) v3 28 [] [] := by
    intro v3 k
    obtain ⟨hz9, k⟩ := k
    have hle_v3 : x_le v3 v3 := x_le.rf v3
    refine ⟨some (.int 1), v3, ⟨(1 : Int32), rfl, k⟩, hle_v3, ?_⟩
    intro p e s m args below meth c A H locs ls F hw hl
    obtain ⟨⟨hx, hb, hml, hown, hts⟩, hr, hlocks, hmn⟩ := id F
    refine lv_iconst (v := 1) hx hb d_F_dependsOnWords_28 (by decide) ?_
    exact xr_zret F rfl hz9 hw d_F_dependsOnWords_29
  have hx6 : ∀ (v5 : PS), (xZ (0 : Int32) ∧ K (0 : Int32) v5) → XN l Z i_F_dependsOnWords u (kI K) v5 45 [] [] := by
    intro v5 k
    obtain ⟨hz9, k⟩ := k
    have hle_v5 : x_le v5 v5 := x_le.rf v5
    refine ⟨some (.int 0), v5, ⟨(0 : Int32), rfl, k⟩, hle_v5, ?_⟩
    intro p e s m args below meth c A H locs ls F hw hl
    obtain ⟨⟨hx, hb, hml, hown, hts⟩, hr, hlocks, hmn⟩ := id F
    refine lv_iconst (v := 0) hx hb d_F_dependsOnWords_45 (by decide) ?_
    exact xr_zret F rfl hz9 hw d_F_dependsOnWords_46
  obtain ⟨rv, v9, hK, hle_u, w9⟩ := t_F_dependsOnWords_L7 l Z u x0 x2 y1 hx4 hx6 n2 (0 : Int32) u k
  refine ⟨rv, v9, hK, hle_u, ?_⟩
  intro p e s m args below meth c A H locs ls F hw hl
  obtain ⟨⟨hx, hb, hml, hown, hts⟩, hr, hlocks, hmn⟩ := id F
  refine lv_iload_n hx hb d_F_dependsOnWords_0 rfl (lv_at hl 1 rfl) ?_
  refine lv_iload_n hx hb d_F_dependsOnWords_1 rfl (lv_at hl 2 rfl) ?_
  refine lv_ior hx hb d_F_dependsOnWords_2 ?_
  refine lv_istore_n (lv' := [(3, .int y1), (0, .ref x0), (1, .int x1), (2, .int x2)]) hx hb d_F_dependsOnWords_3 rfl hl (by decide) (by subst ey1; rfl) (fun ls hl => ?_)
  refine lv_iconst (v := 0) hx hb d_F_dependsOnWords_4 (by decide) ?_
  refine lv_istore (lv' := [(4, .int 0), (3, .int y1), (0, .ref x0), (1, .int x1), (2, .int x2)]) hx hb d_F_dependsOnWords_5 hl (by decide) rfl (fun ls hl => ?_)
  exact w9 p e s m args below meth c A H locs ls F hw (lv_sub hl [2, 4, 1, 0] rfl)
set_option maxRecDepth 100000 in
set_option maxHeartbeats 4000000 in
theorem c_F_depends (l : Launch) (Z : XZ) (x0 : Nat) (x1 : Int32) (x2 : Int32) (u : PS) (K : Int32 → PS → Prop) (k : p_F_depends x0 x1 x2 u K) : ∃ (rv : Option Value) (u1 : PS), (kI K) rv u1 ∧ XMet l Z i_F_depends [.ref x0, .int x1, .int x2] u rv u1 := by
  refine x_met (by decide) rfl (Nat.le_of_ble_eq_true rfl) ?_
  show XN l Z i_F_depends u (kI K) u 0 [(0, .ref x0), (1, .int x1), (2, .int x2)] []
  unfold p_F_depends at k
  obtain ⟨h2, k⟩ := k
  obtain ⟨_, u_13, ⟨r_14, rfl, k⟩, hM1⟩ := c_F_keptWords l Z x0 x1 u _ k
  obtain ⟨_, u_15, ⟨r_16, rfl, k⟩, hM3⟩ := c_F_leftOut l Z r_14 u_13 _ k
  by_cases hc4 : 6 ≤ x2
  · have k := k.1 hc4
    obtain ⟨z_17, h5, k⟩ := k
    obtain ⟨z_18, h6, k⟩ := k
    obtain ⟨_, u_19, ⟨r_20, rfl, k⟩, hM7⟩ := c_F_dependsOnWords l Z z_18 r_16 ((1 : Int32) <<< ((x2 - (6 : Int32)) &&& 31)) u_15 _ k
    obtain ⟨hz9, k⟩ := k
    have hle_u_19 : x_le u_19 u_19 := x_le.rf u_19
    have hle_u_15 : x_le u_15 u_19 := (hM7.1).tr hle_u_19
    have hle_u_13 : x_le u_13 u_19 := (hM3.1).tr hle_u_15
    have hle_u : x_le u u_19 := (hM1.1).tr hle_u_13
    refine ⟨some (.int r_20), u_19, ⟨r_20, rfl, k⟩, hle_u, ?_⟩
    intro p e s m args below meth c A H locs ls F hw hl
    obtain ⟨⟨hx, hb, hml, hown, hts⟩, hr, hlocks, hmn⟩ := id F
    refine lv_aload_n hx hb d_F_depends_0 rfl (lv_at hl 0 rfl) ?_
    refine lv_iload_n hx hb d_F_depends_1 rfl (lv_at hl 1 rfl) ?_
    refine xr_cV (As := [.int x1]) (rest := []) ⟨hx, hb, hml, hown, hts⟩ hw hM1 hle_u_13 (fun _ _ => ⟨callB_of 1 hts (xgood w_264) rfl rfl rfl (hts _ (xm w_2)) (hts _ (xm w_261)) ⟨by decide, by decide, by decide +kernel⟩ ⟨Nat.le_of_ble_eq_true rfl, Nat.le_of_ble_eq_true rfl⟩, (hts _ (xm w_263)), (hts _ (xm wp_1))⟩) (qc := (R_F, F_F, 5)) rfl rfl h2 rfl hl.1 rfl (Nat.le_of_ble_eq_true rfl) d_F_depends_2 (fun H locs hw => ?_)
    refine W.eq (g2 := F0 m 5 ls [.int r_14]) rfl ?_
    refine xr_cS (As := [.int r_14]) (rest := []) ⟨hx, hb, hml, hown, hts⟩ hw hM3 hle_u_15 (fun _ _ => ⟨callB_of 1 hts (xgood w_267) rfl rfl rfl (hts _ (xm w_2)) (hts _ (xm w_265)) ⟨by decide, by decide, by decide +kernel⟩ ⟨Nat.le_of_ble_eq_true rfl, Nat.le_of_ble_eq_true rfl⟩, (hts _ (xm w_266))⟩) rfl hl.1 rfl (Nat.le_of_ble_eq_true rfl) d_F_depends_5 (fun H locs hw => ?_)
    refine W.eq (g2 := F0 m 8 ls [.int r_16]) rfl ?_
    refine lv_istore_n (lv' := [(3, .int r_16), (0, .ref x0), (1, .int x1), (2, .int x2)]) hx hb d_F_depends_8 rfl hl (by decide) rfl (fun ls hl => ?_)
    refine lv_iload_n hx hb d_F_depends_9 rfl (lv_at hl 3 rfl) ?_
    refine lv_bipush (v := 6) hx hb d_F_depends_10 (by decide) ?_
    refine lv_icmp_ge (tgt := 29) hx hb d_F_depends_12 (by decide) (fun _ => ?_) (fun c9 => absurd hc4 c9)
    refine lv_aload_n hx hb d_F_depends_29 rfl (lv_at hl 1 rfl) ?_
    refine xr_get hx hb hts (xmu uws_F) hown hw h5 rfl (by decide) (hts _ (xm w_34)) (fun _ h9 => h9) d_F_depends_30 ?_
    refine lv_iload_n hx hb d_F_depends_33 rfl (lv_at hl 2 rfl) ?_
    refine xr_aald hx hb hw rfl h6 d_F_depends_34 ?_
    refine lv_iload_n hx hb d_F_depends_35 rfl (lv_at hl 0 rfl) ?_
    refine lv_iconst (v := 1) hx hb d_F_depends_36 (by decide) ?_
    refine lv_iload_n hx hb d_F_depends_37 rfl (lv_at hl 3 rfl) ?_
    refine lv_bipush (v := 6) hx hb d_F_depends_38 (by decide) ?_
    refine lv_isub hx hb d_F_depends_40 ?_
    refine lv_ishl hx hb d_F_depends_41 ?_
    refine xr_cS (As := [.ref z_18, .int r_16, .int ((1 : Int32) <<< ((x2 - (6 : Int32)) &&& 31))]) (rest := []) ⟨hx, hb, hml, hown, hts⟩ hw hM7 hle_u_19 (fun _ _ => ⟨callB_of 3 hts (xgood w_276) rfl rfl rfl (hts _ (xm w_2)) (hts _ (xm w_274)) ⟨by decide, by decide, by decide +kernel⟩ ⟨Nat.le_of_ble_eq_true rfl, Nat.le_of_ble_eq_true rfl⟩, (hts _ (xm w_275))⟩) rfl hl.1 rfl (Nat.le_of_ble_eq_true rfl) d_F_depends_42 (fun H locs hw => ?_)
    refine W.eq (g2 := F0 m 45 ls [.int r_20]) rfl ?_
    exact xr_zret F rfl hz9 hw d_F_depends_45
  · have k := k.2 hc4
    obtain ⟨z_21, h8, k⟩ := k
    obtain ⟨z_22, h9, k⟩ := k
    obtain ⟨_, u_23, ⟨r_24, rfl, k⟩, hM10⟩ := c_F_dependsWithinWords l Z z_22 r_16 x2 u_15 _ k
    obtain ⟨hz9, k⟩ := k
    have hle_u_23 : x_le u_23 u_23 := x_le.rf u_23
    have hle_u_15 : x_le u_15 u_23 := (hM10.1).tr hle_u_23
    have hle_u_13 : x_le u_13 u_23 := (hM3.1).tr hle_u_15
    have hle_u : x_le u u_23 := (hM1.1).tr hle_u_13
    refine ⟨some (.int r_24), u_23, ⟨r_24, rfl, k⟩, hle_u, ?_⟩
    intro p e s m args below meth c A H locs ls F hw hl
    obtain ⟨⟨hx, hb, hml, hown, hts⟩, hr, hlocks, hmn⟩ := id F
    refine lv_aload_n hx hb d_F_depends_0 rfl (lv_at hl 0 rfl) ?_
    refine lv_iload_n hx hb d_F_depends_1 rfl (lv_at hl 1 rfl) ?_
    refine xr_cV (As := [.int x1]) (rest := []) ⟨hx, hb, hml, hown, hts⟩ hw hM1 hle_u_13 (fun _ _ => ⟨callB_of 1 hts (xgood w_264) rfl rfl rfl (hts _ (xm w_2)) (hts _ (xm w_261)) ⟨by decide, by decide, by decide +kernel⟩ ⟨Nat.le_of_ble_eq_true rfl, Nat.le_of_ble_eq_true rfl⟩, (hts _ (xm w_263)), (hts _ (xm wp_1))⟩) (qc := (R_F, F_F, 5)) rfl rfl h2 rfl hl.1 rfl (Nat.le_of_ble_eq_true rfl) d_F_depends_2 (fun H locs hw => ?_)
    refine W.eq (g2 := F0 m 5 ls [.int r_14]) rfl ?_
    refine xr_cS (As := [.int r_14]) (rest := []) ⟨hx, hb, hml, hown, hts⟩ hw hM3 hle_u_15 (fun _ _ => ⟨callB_of 1 hts (xgood w_267) rfl rfl rfl (hts _ (xm w_2)) (hts _ (xm w_265)) ⟨by decide, by decide, by decide +kernel⟩ ⟨Nat.le_of_ble_eq_true rfl, Nat.le_of_ble_eq_true rfl⟩, (hts _ (xm w_266))⟩) rfl hl.1 rfl (Nat.le_of_ble_eq_true rfl) d_F_depends_5 (fun H locs hw => ?_)
    refine W.eq (g2 := F0 m 8 ls [.int r_16]) rfl ?_
    refine lv_istore_n (lv' := [(3, .int r_16), (0, .ref x0), (1, .int x1), (2, .int x2)]) hx hb d_F_depends_8 rfl hl (by decide) rfl (fun ls hl => ?_)
    refine lv_iload_n hx hb d_F_depends_9 rfl (lv_at hl 3 rfl) ?_
    refine lv_bipush (v := 6) hx hb d_F_depends_10 (by decide) ?_
    refine lv_icmp_ge (tgt := 29) hx hb d_F_depends_12 (by decide) (fun c9 => absurd c9 hc4) (fun _ => ?_)
    refine lv_aload_n hx hb d_F_depends_15 rfl (lv_at hl 1 rfl) ?_
    refine xr_get hx hb hts (xmu uws_F) hown hw h8 rfl (by decide) (hts _ (xm w_34)) (fun _ h9 => h9) d_F_depends_16 ?_
    refine lv_iload_n hx hb d_F_depends_19 rfl (lv_at hl 2 rfl) ?_
    refine xr_aald hx hb hw rfl h9 d_F_depends_20 ?_
    refine lv_iload_n hx hb d_F_depends_21 rfl (lv_at hl 0 rfl) ?_
    refine lv_iload_n hx hb d_F_depends_22 rfl (lv_at hl 3 rfl) ?_
    refine xr_cS (As := [.ref z_22, .int r_16, .int x2]) (rest := []) ⟨hx, hb, hml, hown, hts⟩ hw hM10 hle_u_23 (fun _ _ => ⟨callB_of 3 hts (xgood w_270) rfl rfl rfl (hts _ (xm w_2)) (hts _ (xm w_268)) ⟨by decide, by decide, by decide +kernel⟩ ⟨Nat.le_of_ble_eq_true rfl, Nat.le_of_ble_eq_true rfl⟩, (hts _ (xm w_269))⟩) rfl hl.1 rfl (Nat.le_of_ble_eq_true rfl) d_F_depends_23 (fun H locs hw => ?_)
    refine W.eq (g2 := F0 m 26 ls [.int r_24]) rfl ?_
    refine lv_goto (tgt := 45) hx hb d_F_depends_26 (by decide) ?_
    exact xr_zret F rfl hz9 hw d_F_depends_45
set_option maxRecDepth 100000 in
set_option maxHeartbeats 4000000 in
theorem t_F_usedInputs_J49 (l : Launch) (Z : XZ) (u0 : PS) {Kv : Option Value → PS → Prop} {R : Int32 → Int32 → PS → Prop} {E58 : Int32 → PS → Prop} (x0 : Nat) (x1 : Int32) (x2 : Int32) (x3 : Int32) (u : PS) (hR : ∀ (y2 : Int32) (y3 : Int32) (v : PS), R y2 y3 v → XN l Z i_F_usedInputs u0 Kv v 20 [(0, .ref x0), (1, .int x1), (2, .int y2), (3, .int y3)] []) (hE58 : ∀ (y2 : Int32) (v : PS), E58 y2 v → XN l Z i_F_usedInputs u0 Kv v 58 [(0, .ref x0), (1, .int x1), (2, .int y2)] []) (k : (p_F_usedInputs_J49 R E58 x0 x1 x2 x3 u)) : XN l Z i_F_usedInputs u0 Kv u 49 [(0, .ref x0), (1, .int x1), (2, .int x2), (3, .int x3)] [] := by
  unfold p_F_usedInputs_J49 at k
  obtain ⟨y1, ey1⟩ : ∃ y9 : Int32, y9 = (x3 &&& (x3 - (1 : Int32))) := ⟨_, rfl⟩
  have k := k y1 ey1
  obtain ⟨rv, v9, hK, hle_u, w9⟩ := hR x2 y1 u k
  refine ⟨rv, v9, hK, hle_u, ?_⟩
  intro p e s m args below meth c A H locs ls F hw hl
  obtain ⟨⟨hx, hb, hml, hown, hts⟩, hr, hlocks, hmn⟩ := id F
  refine lv_iload_n hx hb d_F_usedInputs_49 rfl (lv_at hl 3 rfl) ?_
  refine lv_iload_n hx hb d_F_usedInputs_50 rfl (lv_at hl 3 rfl) ?_
  refine lv_iconst (v := 1) hx hb d_F_usedInputs_51 (by decide) ?_
  refine lv_isub hx hb d_F_usedInputs_52 ?_
  refine lv_iand hx hb d_F_usedInputs_53 ?_
  refine lv_istore_n (lv' := [(3, .int y1), (0, .ref x0), (1, .int x1), (2, .int x2)]) hx hb d_F_usedInputs_54 rfl hl (by decide) (by subst ey1; rfl) (fun ls hl => ?_)
  refine lv_goto (tgt := 20) hx hb d_F_usedInputs_55 (by decide) ?_
  exact w9 p e s m args below meth c A H locs ls F hw (lv_sub hl [1, 2, 3, 0] rfl)
set_option maxRecDepth 100000 in
set_option maxHeartbeats 4000000 in
theorem t_F_usedInputs_L20 (l : Launch) (Z : XZ) (u0 : PS) {Kv : Option Value → PS → Prop} {E58 : Int32 → PS → Prop} (x0 : Nat) (x1 : Int32) (hE58 : ∀ (y2 : Int32) (v : PS), E58 y2 v → XN l Z i_F_usedInputs u0 Kv v 58 [(0, .ref x0), (1, .int x1), (2, .int y2)] []) : ∀ (n : Nat) (x2 : Int32) (x3 : Int32) (u : PS), p_F_usedInputs_L20 x0 x1 E58 n x2 x3 u → XN l Z i_F_usedInputs u0 Kv u 20 [(0, .ref x0), (1, .int x1), (2, .int x2), (3, .int x3)] [] := by
  intro n
  induction n with
  | zero => intro x2 x3 u k; exact False.elim k
  | succ n ih =>
    intro x2 x3 u k
    rw [p_F_usedInputs_L20] at k
    by_cases hc1 : x3 = 0
    · have k := k.1 hc1
      obtain ⟨rv, v9, hK, hle_u, w9⟩ := hE58 x2 u k
      refine ⟨rv, v9, hK, hle_u, ?_⟩
      intro p e s m args below meth c A H locs ls F hw hl
      obtain ⟨⟨hx, hb, hml, hown, hts⟩, hr, hlocks, hmn⟩ := id F
      refine lv_iload_n hx hb d_F_usedInputs_20 rfl (lv_at hl 3 rfl) ?_
      refine lv_if_eq (tgt := 58) hx hb d_F_usedInputs_21 (by decide) (fun _ => ?_) (fun c9 => absurd hc1 c9)
      exact w9 p e s m args below meth c A H locs ls F hw (lv_sub hl [0, 1, 2] rfl)
    · have k := k.2 hc1
      obtain ⟨_, u_19, ⟨r_20, rfl, k⟩, hM2⟩ := c_JI_numberOfTrailingZeros l Z x3 u _ k
      obtain ⟨h4, k⟩ := k
      obtain ⟨_, u_21, ⟨r_22, rfl, k⟩, hM3⟩ := c_F_depends l Z x0 x1 r_20 u_19 _ k
      by_cases hc5 : r_22 = 0
      · have k := k.2 hc5
        obtain ⟨y6, ey6⟩ : ∃ y9 : Int32, y9 = (x2 &&& (((1 : Int32) <<< (r_20 &&& 31)) ^^^ (-1 : Int32))) := ⟨_, rfl⟩
        have k := k y6 ey6
        obtain ⟨rv, v9, hK, hle_u_21, w9⟩ := t_F_usedInputs_J49 l Z u0 x0 x1 y6 x3 u_21 ih hE58 k
        have hle_u_19 : x_le u_19 v9 := (hM3.1).tr hle_u_21
        have hle_u : x_le u v9 := (hM2.1).tr hle_u_19
        refine ⟨rv, v9, hK, hle_u, ?_⟩
        intro p e s m args below meth c A H locs ls F hw hl
        obtain ⟨⟨hx, hb, hml, hown, hts⟩, hr, hlocks, hmn⟩ := id F
        refine lv_iload_n hx hb d_F_usedInputs_20 rfl (lv_at hl 3 rfl) ?_
        refine lv_if_eq (tgt := 58) hx hb d_F_usedInputs_21 (by decide) (fun c9 => absurd c9 hc1) (fun _ => ?_)
        refine lv_iload_n hx hb d_F_usedInputs_24 rfl (lv_at hl 3 rfl) ?_
        refine xr_cS (As := [.int x3]) (rest := []) ⟨hx, hb, hml, hown, hts⟩ hw hM2 hle_u_19 (fun _ _ => ⟨callB_of 1 hts (xgood w_68) rfl rfl rfl (hts _ (xm w_5)) (hts _ (xm w_256)) ⟨by decide, by decide, by decide +kernel⟩ ⟨Nat.le_of_ble_eq_true rfl, Nat.le_of_ble_eq_true rfl⟩, (hts _ (xm w_67))⟩) rfl hl.1 rfl (Nat.le_of_ble_eq_true rfl) d_F_usedInputs_25 (fun H locs hw => ?_)
        refine W.eq (g2 := F0 m 28 ls [.int r_20]) rfl ?_
        refine lv_istore (lv' := [(4, .int r_20), (0, .ref x0), (1, .int x1), (2, .int x2), (3, .int x3)]) hx hb d_F_usedInputs_28 hl (by decide) rfl (fun ls hl => ?_)
        refine lv_aload_n hx hb d_F_usedInputs_30 rfl (lv_at hl 1 rfl) ?_
        refine lv_iload_n hx hb d_F_usedInputs_31 rfl (lv_at hl 2 rfl) ?_
        refine lv_iload hx hb d_F_usedInputs_32 (lv_at hl 0 rfl) ?_
        refine xr_cV (As := [.int x1, .int r_20]) (rest := []) ⟨hx, hb, hml, hown, hts⟩ hw hM3 hle_u_21 (fun _ _ => ⟨callB_of 2 hts (xgood w_260) rfl rfl rfl (hts _ (xm w_2)) (hts _ (xm w_257)) ⟨by decide, by decide, by decide +kernel⟩ ⟨Nat.le_of_ble_eq_true rfl, Nat.le_of_ble_eq_true rfl⟩, (hts _ (xm w_259)), (hts _ (xm wp_0))⟩) (qc := (R_F, F_F, 5)) rfl rfl h4 rfl hl.1 rfl (Nat.le_of_ble_eq_true rfl) d_F_usedInputs_34 (fun H locs hw => ?_)
        refine W.eq (g2 := F0 m 37 ls [.int r_22]) rfl ?_
        refine lv_if_ne (tgt := 49) hx hb d_F_usedInputs_37 (by decide) (fun c9 => absurd hc5 c9) (fun _ => ?_)
        refine lv_iload_n hx hb d_F_usedInputs_40 rfl (lv_at hl 3 rfl) ?_
        refine lv_iconst (v := 1) hx hb d_F_usedInputs_41 (by decide) ?_
        refine lv_iload hx hb d_F_usedInputs_42 (lv_at hl 0 rfl) ?_
        refine lv_ishl hx hb d_F_usedInputs_44 ?_
        refine lv_iconst (v := (-1)) hx hb d_F_usedInputs_45 (by decide) ?_
        refine lv_ixor hx hb d_F_usedInputs_46 ?_
        refine lv_iand hx hb d_F_usedInputs_47 ?_
        refine lv_istore_n (lv' := [(2, .int y6), (4, .int r_20), (0, .ref x0), (1, .int x1), (3, .int x3)]) hx hb d_F_usedInputs_48 rfl hl (by decide) (by subst ey6; rfl) (fun ls hl => ?_)
        exact w9 p e s m args below meth c A H locs ls F hw (lv_sub hl [2, 3, 0, 4] rfl)
      · have k := k.1 hc5
        obtain ⟨rv, v9, hK, hle_u_21, w9⟩ := t_F_usedInputs_J49 l Z u0 x0 x1 x2 x3 u_21 ih hE58 k
        have hle_u_19 : x_le u_19 v9 := (hM3.1).tr hle_u_21
        have hle_u : x_le u v9 := (hM2.1).tr hle_u_19
        refine ⟨rv, v9, hK, hle_u, ?_⟩
        intro p e s m args below meth c A H locs ls F hw hl
        obtain ⟨⟨hx, hb, hml, hown, hts⟩, hr, hlocks, hmn⟩ := id F
        refine lv_iload_n hx hb d_F_usedInputs_20 rfl (lv_at hl 3 rfl) ?_
        refine lv_if_eq (tgt := 58) hx hb d_F_usedInputs_21 (by decide) (fun c9 => absurd c9 hc1) (fun _ => ?_)
        refine lv_iload_n hx hb d_F_usedInputs_24 rfl (lv_at hl 3 rfl) ?_
        refine xr_cS (As := [.int x3]) (rest := []) ⟨hx, hb, hml, hown, hts⟩ hw hM2 hle_u_19 (fun _ _ => ⟨callB_of 1 hts (xgood w_68) rfl rfl rfl (hts _ (xm w_5)) (hts _ (xm w_256)) ⟨by decide, by decide, by decide +kernel⟩ ⟨Nat.le_of_ble_eq_true rfl, Nat.le_of_ble_eq_true rfl⟩, (hts _ (xm w_67))⟩) rfl hl.1 rfl (Nat.le_of_ble_eq_true rfl) d_F_usedInputs_25 (fun H locs hw => ?_)
        refine W.eq (g2 := F0 m 28 ls [.int r_20]) rfl ?_
        refine lv_istore (lv' := [(4, .int r_20), (0, .ref x0), (1, .int x1), (2, .int x2), (3, .int x3)]) hx hb d_F_usedInputs_28 hl (by decide) rfl (fun ls hl => ?_)
        refine lv_aload_n hx hb d_F_usedInputs_30 rfl (lv_at hl 1 rfl) ?_
        refine lv_iload_n hx hb d_F_usedInputs_31 rfl (lv_at hl 2 rfl) ?_
        refine lv_iload hx hb d_F_usedInputs_32 (lv_at hl 0 rfl) ?_
        refine xr_cV (As := [.int x1, .int r_20]) (rest := []) ⟨hx, hb, hml, hown, hts⟩ hw hM3 hle_u_21 (fun _ _ => ⟨callB_of 2 hts (xgood w_260) rfl rfl rfl (hts _ (xm w_2)) (hts _ (xm w_257)) ⟨by decide, by decide, by decide +kernel⟩ ⟨Nat.le_of_ble_eq_true rfl, Nat.le_of_ble_eq_true rfl⟩, (hts _ (xm w_259)), (hts _ (xm wp_0))⟩) (qc := (R_F, F_F, 5)) rfl rfl h4 rfl hl.1 rfl (Nat.le_of_ble_eq_true rfl) d_F_usedInputs_34 (fun H locs hw => ?_)
        refine W.eq (g2 := F0 m 37 ls [.int r_22]) rfl ?_
        refine lv_if_ne (tgt := 49) hx hb d_F_usedInputs_37 (by decide) (fun _ => ?_) (fun c9 => absurd c9 hc5)
        exact w9 p e s m args below meth c A H locs ls F hw (lv_sub hl [1, 2, 3, 4] rfl)
set_option maxRecDepth 100000 in
set_option maxHeartbeats 4000000 in
theorem t_F_usedInputs_J64 (l : Launch) (Z : XZ) (u0 : PS) {K : Int32 → PS → Prop} (x0 : Nat) (x1 : Int32) (u : PS) (k : (p_F_usedInputs_J64 K x0 x1 u)) : XN l Z i_F_usedInputs u0 (kI K) u 64 [(0, .ref x0), (1, .int x1)] [] := by
  unfold p_F_usedInputs_J64 at k
  obtain ⟨z_24, h1, k⟩ := k
  obtain ⟨z_25, h2, k⟩ := k
  have hle_u : x_le u u := x_le.rf u
  refine ⟨some (.int z_25), u, ⟨z_25, rfl, k⟩, hle_u, ?_⟩
  intro p e s m args below meth c A H locs ls F hw hl
  obtain ⟨⟨hx, hb, hml, hown, hts⟩, hr, hlocks, hmn⟩ := id F
  refine lv_aload_n hx hb d_F_usedInputs_64 rfl (lv_at hl 0 rfl) ?_
  refine xr_get hx hb hts (xmu uws_F) hown hw h1 rfl (by decide) (hts _ (xm w_35)) (fun _ h9 => h9) d_F_usedInputs_65 ?_
  refine lv_iload_n hx hb d_F_usedInputs_68 rfl (lv_at hl 1 rfl) ?_
  refine xr_iald hx hb hw h2 d_F_usedInputs_69 ?_
  exact xr_iret F rfl hw d_F_usedInputs_70
set_option maxRecDepth 100000 in
set_option maxHeartbeats 4000000 in
theorem t_F_usedInputs_J58 (l : Launch) (Z : XZ) (u0 : PS) {K : Int32 → PS → Prop} (x0 : Nat) (x1 : Int32) (x2 : Int32) (u : PS) (k : (p_F_usedInputs_J58 K x0 x1 x2 u)) : XN l Z i_F_usedInputs u0 (kI K) u 58 [(0, .ref x0), (1, .int x1), (2, .int x2)] [] := by
  unfold p_F_usedInputs_J58 at k
  obtain ⟨h2, k⟩ := k
  obtain ⟨_, u_23, ⟨rfl, k⟩, hM1⟩ := c_F_beSure l Z x0 x1 x2 u _ k
  obtain ⟨rv, v9, hK, hle_u_23, w9⟩ := t_F_usedInputs_J64 l Z u0 x0 x1 u_23 k
  have hle_u : x_le u v9 := (hM1.1).tr hle_u_23
  refine ⟨rv, v9, hK, hle_u, ?_⟩
  intro p e s m args below meth c A H locs ls F hw hl
  obtain ⟨⟨hx, hb, hml, hown, hts⟩, hr, hlocks, hmn⟩ := id F
  refine lv_aload_n hx hb d_F_usedInputs_58 rfl (lv_at hl 0 rfl) ?_
  refine lv_iload_n hx hb d_F_usedInputs_59 rfl (lv_at hl 1 rfl) ?_
  refine lv_iload_n hx hb d_F_usedInputs_60 rfl (lv_at hl 2 rfl) ?_
  refine xr_cV (As := [.int x1, .int x2]) (rest := []) ⟨hx, hb, hml, hown, hts⟩ hw hM1 hle_u_23 (fun _ _ => ⟨callB_of 2 hts (xgood w_280) rfl rfl rfl (hts _ (xm w_2)) (hts _ (xm w_277)) ⟨by decide, by decide, by decide +kernel⟩ ⟨Nat.le_of_ble_eq_true rfl, Nat.le_of_ble_eq_true rfl⟩, (hts _ (xm w_279)), (hts _ (xm wp_2))⟩) (qc := (R_F, F_F, 5)) rfl rfl h2 rfl hl.1 rfl (Nat.le_of_ble_eq_true rfl) d_F_usedInputs_61 (fun H locs hw => ?_)
  refine W.eq (g2 := F0 m 64 ls []) rfl ?_
  exact w9 p e s m args below meth c A H locs ls F hw (lv_sub hl [0, 1] rfl)
set_option maxRecDepth 100000 in
set_option maxHeartbeats 4000000 in
theorem c_F_usedInputs (l : Launch) (Z : XZ) (x0 : Nat) (x1 : Int32) (u : PS) (K : Int32 → PS → Prop) (k : p_F_usedInputs x0 x1 u K) : ∃ (rv : Option Value) (u1 : PS), (kI K) rv u1 ∧ XMet l Z i_F_usedInputs [.ref x0, .int x1] u rv u1 := by
  refine x_met (by decide) rfl (Nat.le_of_ble_eq_true rfl) ?_
  show XN l Z i_F_usedInputs u (kI K) u 0 [(0, .ref x0), (1, .int x1)] []
  unfold p_F_usedInputs at k
  obtain ⟨z_16, h1, k⟩ := k
  by_cases hc2 : ((z_16 >>> (x1 &&& 31)) &&& (1 : Int32)) = 0
  · have k := k.2 hc2
    obtain ⟨z_17, h3, k⟩ := k
    obtain ⟨z_18, h4, k⟩ := k
    obtain ⟨n5, k⟩ := k
    have hx8 : ∀ (y2_6 : Int32) (v7 : PS), (p_F_usedInputs_J58 K x0 x1 y2_6 v7) → XN l Z i_F_usedInputs u (kI K) v7 58 [(0, .ref x0), (1, .int x1), (2, .int y2_6)] [] := by
      intro y2_6 v7 k
      obtain ⟨rv, v9, hK, hle_v7, w9⟩ := t_F_usedInputs_J58 l Z u x0 x1 y2_6 v7 k
      refine ⟨rv, v9, hK, hle_v7, ?_⟩
      intro p e s m args below meth c A H locs ls F hw hl
      obtain ⟨⟨hx, hb, hml, hown, hts⟩, hr, hlocks, hmn⟩ := id F
      exact w9 p e s m args below meth c A H locs ls F hw (lv_sub hl [0, 1, 2] rfl)
    obtain ⟨rv, v9, hK, hle_u, w9⟩ := t_F_usedInputs_L20 l Z u x0 x1 hx8 n5 z_18 z_18 u k
    refine ⟨rv, v9, hK, hle_u, ?_⟩
    intro p e s m args below meth c A H locs ls F hw hl
    obtain ⟨⟨hx, hb, hml, hown, hts⟩, hr, hlocks, hmn⟩ := id F
    refine lv_aload_n hx hb d_F_usedInputs_0 rfl (lv_at hl 0 rfl) ?_
    refine xr_get hx hb hts (xmu uws_F) hown hw h1 rfl (by decide) (hts _ (xm w_36)) (fun _ h9 => h9) d_F_usedInputs_1 ?_
    refine lv_iload_n hx hb d_F_usedInputs_4 rfl (lv_at hl 1 rfl) ?_
    refine lv_ishr hx hb d_F_usedInputs_5 ?_
    refine lv_iconst (v := 1) hx hb d_F_usedInputs_6 (by decide) ?_
    refine lv_iand hx hb d_F_usedInputs_7 ?_
    refine lv_if_ne (tgt := 64) hx hb d_F_usedInputs_8 (by decide) (fun c9 => absurd hc2 c9) (fun _ => ?_)
    refine lv_aload_n hx hb d_F_usedInputs_11 rfl (lv_at hl 0 rfl) ?_
    refine xr_get hx hb hts (xmu uws_F) hown hw h3 rfl (by decide) (hts _ (xm w_35)) (fun _ h9 => h9) d_F_usedInputs_12 ?_
    refine lv_iload_n hx hb d_F_usedInputs_15 rfl (lv_at hl 1 rfl) ?_
    refine xr_iald hx hb hw h4 d_F_usedInputs_16 ?_
    refine lv_istore_n (lv' := [(2, .int z_18), (0, .ref x0), (1, .int x1)]) hx hb d_F_usedInputs_17 rfl hl (by decide) rfl (fun ls hl => ?_)
    refine lv_iload_n hx hb d_F_usedInputs_18 rfl (lv_at hl 0 rfl) ?_
    refine lv_istore_n (lv' := [(3, .int z_18), (2, .int z_18), (0, .ref x0), (1, .int x1)]) hx hb d_F_usedInputs_19 rfl hl (by decide) rfl (fun ls hl => ?_)
    exact w9 p e s m args below meth c A H locs ls F hw (lv_sub hl [2, 3, 1, 0] rfl)
  · have k := k.1 hc2
    obtain ⟨rv, v9, hK, hle_u, w9⟩ := t_F_usedInputs_J64 l Z u x0 x1 u k
    refine ⟨rv, v9, hK, hle_u, ?_⟩
    intro p e s m args below meth c A H locs ls F hw hl
    obtain ⟨⟨hx, hb, hml, hown, hts⟩, hr, hlocks, hmn⟩ := id F
    refine lv_aload_n hx hb d_F_usedInputs_0 rfl (lv_at hl 0 rfl) ?_
    refine xr_get hx hb hts (xmu uws_F) hown hw h1 rfl (by decide) (hts _ (xm w_36)) (fun _ h9 => h9) d_F_usedInputs_1 ?_
    refine lv_iload_n hx hb d_F_usedInputs_4 rfl (lv_at hl 1 rfl) ?_
    refine lv_ishr hx hb d_F_usedInputs_5 ?_
    refine lv_iconst (v := 1) hx hb d_F_usedInputs_6 (by decide) ?_
    refine lv_iand hx hb d_F_usedInputs_7 ?_
    refine lv_if_ne (tgt := 64) hx hb d_F_usedInputs_8 (by decide) (fun _ => ?_) (fun c9 => absurd c9 hc2)
    exact w9 p e s m args below meth c A H locs ls F hw (lv_sub hl [0, 1] rfl)
set_option maxRecDepth 100000 in
set_option maxHeartbeats 4000000 in
theorem t_F_findMates_L2 (l : Launch) (Z : XZ) (u0 : PS) {Kv : Option Value → PS → Prop} {E18 : PS → Prop} (x0 : Nat) (x1 : Nat) (hE18 : ∀ (v : PS), E18 v → XN l Z i_F_findMates u0 Kv v 18 [(0, .ref x0), (1, .ref x1)] []) : ∀ (n : Nat) (x2 : Int32) (u : PS), p_F_findMates_L2 x0 x1 E18 n x2 u → XN l Z i_F_findMates u0 Kv u 2 [(0, .ref x0), (1, .ref x1), (2, .int x2)] [] := by
  intro n
  induction n with
  | zero => intro x2 u k; exact False.elim k
  | succ n ih =>
    intro x2 u k
    rw [p_F_findMates_L2] at k
    by_cases hc1 : 10 ≤ x2
    · have k := k.1 hc1
      obtain ⟨rv, v9, hK, hle_u, w9⟩ := hE18 u k
      refine ⟨rv, v9, hK, hle_u, ?_⟩
      intro p e s m args below meth c A H locs ls F hw hl
      obtain ⟨⟨hx, hb, hml, hown, hts⟩, hr, hlocks, hmn⟩ := id F
      refine lv_iload_n hx hb d_F_findMates_2 rfl (lv_at hl 2 rfl) ?_
      refine lv_bipush (v := 10) hx hb d_F_findMates_3 (by decide) ?_
      refine lv_icmp_ge (tgt := 18) hx hb d_F_findMates_5 (by decide) (fun _ => ?_) (fun c9 => absurd hc1 c9)
      exact w9 p e s m args below meth c A H locs ls F hw (lv_sub hl [0, 1] rfl)
    · have k := k.2 hc1
      obtain ⟨u_20, h2, k⟩ := k
      obtain ⟨y3, ey3⟩ : ∃ y9 : Int32, y9 = x2 + 1 := ⟨_, rfl⟩
      have k := k y3 ey3
      obtain ⟨rv, v9, hK, hle_u_20, w9⟩ := ih y3 u_20 k
      have hle_u : x_le u v9 := (h2.le).tr hle_u_20
      refine ⟨rv, v9, hK, hle_u, ?_⟩
      intro p e s m args below meth c A H locs ls F hw hl
      obtain ⟨⟨hx, hb, hml, hown, hts⟩, hr, hlocks, hmn⟩ := id F
      refine lv_iload_n hx hb d_F_findMates_2 rfl (lv_at hl 2 rfl) ?_
      refine lv_bipush (v := 10) hx hb d_F_findMates_3 (by decide) ?_
      refine lv_icmp_ge (tgt := 18) hx hb d_F_findMates_5 (by decide) (fun c9 => absurd c9 hc1) (fun _ => ?_)
      refine lv_aload_n hx hb d_F_findMates_8 rfl (lv_at hl 1 rfl) ?_
      refine lv_iload_n hx hb d_F_findMates_9 rfl (lv_at hl 2 rfl) ?_
      refine lv_iconst (v := 0) hx hb d_F_findMates_10 (by decide) ?_
      refine xr_iast hx hb hw h2 d_F_findMates_11 (fun H locs hw => ?_)
      refine lv_iinc (v := y3) (lv' := [(2, .int y3), (0, .ref x0), (1, .ref x1)]) hx hb d_F_findMates_12 hl (k := 2) rfl (by subst ey3; rfl) (by decide) rfl (fun ls hl => ?_)
      refine lv_goto (tgt := 2) hx hb d_F_findMates_15 (by decide) ?_
      exact w9 p e s m args below meth c A H locs ls F hw (lv_sub hl [1, 2, 0] rfl)
set_option maxRecDepth 100000 in
set_option maxHeartbeats 4000000 in
theorem t_F_findMates_L40 (l : Launch) (Z : XZ) (u0 : PS) {Kv : Option Value → PS → Prop} {E68 : PS → Prop} (x0 : Nat) (x1 : Nat) (x2 : Int32) (x3 : Int32) (hE68 : ∀ (v : PS), E68 v → XN l Z i_F_findMates u0 Kv v 68 [(0, .ref x0), (1, .ref x1), (2, .int x2)] []) : ∀ (n : Nat) (x4 : Int32) (u : PS), p_F_findMates_L40 x0 x1 x2 x3 E68 n x4 u → XN l Z i_F_findMates u0 Kv u 40 [(0, .ref x0), (1, .ref x1), (2, .int x2), (3, .int x3), (4, .int x4)] [] := by
  intro n
  induction n with
  | zero => intro x4 u k; exact False.elim k
  | succ n ih =>
    intro x4 u k
    rw [p_F_findMates_L40] at k
    by_cases hc1 : x4 = 0
    · have k := k.1 hc1
      obtain ⟨rv, v9, hK, hle_u, w9⟩ := hE68 u k
      refine ⟨rv, v9, hK, hle_u, ?_⟩
      intro p e s m args below meth c A H locs ls F hw hl
      obtain ⟨⟨hx, hb, hml, hown, hts⟩, hr, hlocks, hmn⟩ := id F
      refine lv_iload hx hb d_F_findMates_40 (lv_at hl 4 rfl) ?_
      refine lv_if_eq (tgt := 68) hx hb d_F_findMates_42 (by decide) (fun _ => ?_) (fun c9 => absurd hc1 c9)
      exact w9 p e s m args below meth c A H locs ls F hw (lv_sub hl [0, 1, 2] rfl)
    · have k := k.2 hc1
      obtain ⟨_, u_26, ⟨r_27, rfl, k⟩, hM2⟩ := c_JI_numberOfTrailingZeros l Z x4 u _ k
      obtain ⟨z_28, h3, k⟩ := k
      obtain ⟨u_29, h4, k⟩ := k
      obtain ⟨y5, ey5⟩ : ∃ y9 : Int32, y9 = (x4 &&& (x4 - (1 : Int32))) := ⟨_, rfl⟩
      have k := k y5 ey5
      obtain ⟨rv, v9, hK, hle_u_29, w9⟩ := ih y5 u_29 k
      have hle_u_26 : x_le u_26 v9 := (h4.le).tr hle_u_29
      have hle_u : x_le u v9 := (hM2.1).tr hle_u_26
      refine ⟨rv, v9, hK, hle_u, ?_⟩
      intro p e s m args below meth c A H locs ls F hw hl
      obtain ⟨⟨hx, hb, hml, hown, hts⟩, hr, hlocks, hmn⟩ := id F
      refine lv_iload hx hb d_F_findMates_40 (lv_at hl 4 rfl) ?_
      refine lv_if_eq (tgt := 68) hx hb d_F_findMates_42 (by decide) (fun c9 => absurd c9 hc1) (fun _ => ?_)
      refine lv_aload_n hx hb d_F_findMates_45 rfl (lv_at hl 1 rfl) ?_
      refine lv_iload hx hb d_F_findMates_46 (lv_at hl 4 rfl) ?_
      refine xr_cS (As := [.int x4]) (rest := [.ref x1]) ⟨hx, hb, hml, hown, hts⟩ hw hM2 hle_u_26 (fun _ _ => ⟨callB_of 1 hts (xgood w_68) rfl rfl rfl (hts _ (xm w_5)) (hts _ (xm w_256)) ⟨by decide, by decide, by decide +kernel⟩ ⟨Nat.le_of_ble_eq_true rfl, Nat.le_of_ble_eq_true rfl⟩, (hts _ (xm w_67))⟩) rfl hl.1 rfl (Nat.le_of_ble_eq_true rfl) d_F_findMates_48 (fun H locs hw => ?_)
      refine W.eq (g2 := F0 m 51 ls [.int r_27, .ref x1]) rfl ?_
      refine lv_dup2_11 hx hb d_F_findMates_51 rfl rfl ?_
      refine xr_iald hx hb hw h3 d_F_findMates_52 ?_
      refine lv_iload_n hx hb d_F_findMates_53 rfl (lv_at hl 3 rfl) ?_
      refine lv_ior hx hb d_F_findMates_54 ?_
      refine xr_iast hx hb hw h4 d_F_findMates_55 (fun H locs hw => ?_)
      refine lv_iload hx hb d_F_findMates_56 (lv_at hl 4 rfl) ?_
      refine lv_iload hx hb d_F_findMates_58 (lv_at hl 4 rfl) ?_
      refine lv_iconst (v := 1) hx hb d_F_findMates_60 (by decide) ?_
      refine lv_isub hx hb d_F_findMates_61 ?_
      refine lv_iand hx hb d_F_findMates_62 ?_
      refine lv_istore (lv' := [(4, .int y5), (0, .ref x0), (1, .ref x1), (2, .int x2), (3, .int x3)]) hx hb d_F_findMates_63 hl (by decide) (by subst ey5; rfl) (fun ls hl => ?_)
      refine lv_goto (tgt := 40) hx hb d_F_findMates_65 (by decide) ?_
      exact w9 p e s m args below meth c A H locs ls F hw (lv_sub hl [1, 2, 3, 4, 0] rfl)
set_option maxRecDepth 100000 in
set_option maxHeartbeats 4000000 in
theorem t_F_findMates_J68 (l : Launch) (Z : XZ) (u0 : PS) {Kv : Option Value → PS → Prop} {R : Int32 → PS → Prop} {E77 : PS → Prop} (x0 : Nat) (x1 : Nat) (x2 : Int32) (u : PS) (hR : ∀ (y2 : Int32) (v : PS), R y2 v → XN l Z i_F_findMates u0 Kv v 23 [(0, .ref x0), (1, .ref x1), (2, .int y2)] []) (hE77 : ∀ (v : PS), E77 v → XN l Z i_F_findMates u0 Kv v 77 [] []) (k : (p_F_findMates_J68 R E77 x0 x1 x2 u)) : XN l Z i_F_findMates u0 Kv u 68 [(0, .ref x0), (1, .ref x1), (2, .int x2)] [] := by
  unfold p_F_findMates_J68 at k
  obtain ⟨y1, ey1⟩ : ∃ y9 : Int32, y9 = (x2 &&& (x2 - (1 : Int32))) := ⟨_, rfl⟩
  have k := k y1 ey1
  obtain ⟨rv, v9, hK, hle_u, w9⟩ := hR y1 u k
  refine ⟨rv, v9, hK, hle_u, ?_⟩
  intro p e s m args below meth c A H locs ls F hw hl
  obtain ⟨⟨hx, hb, hml, hown, hts⟩, hr, hlocks, hmn⟩ := id F
  refine lv_iload_n hx hb d_F_findMates_68 rfl (lv_at hl 2 rfl) ?_
  refine lv_iload_n hx hb d_F_findMates_69 rfl (lv_at hl 2 rfl) ?_
  refine lv_iconst (v := 1) hx hb d_F_findMates_70 (by decide) ?_
  refine lv_isub hx hb d_F_findMates_71 ?_
  refine lv_iand hx hb d_F_findMates_72 ?_
  refine lv_istore_n (lv' := [(2, .int y1), (0, .ref x0), (1, .ref x1)]) hx hb d_F_findMates_73 rfl hl (by decide) (by subst ey1; rfl) (fun ls hl => ?_)
  refine lv_goto (tgt := 23) hx hb d_F_findMates_74 (by decide) ?_
  exact w9 p e s m args below meth c A H locs ls F hw (lv_sub hl [1, 2, 0] rfl)
set_option maxRecDepth 100000 in
set_option maxHeartbeats 4000000 in
theorem t_F_findMates_L23 (l : Launch) (Z : XZ) (u0 : PS) {Kv : Option Value → PS → Prop} {E77 : PS → Prop} (x0 : Nat) (x1 : Nat) (hE77 : ∀ (v : PS), E77 v → XN l Z i_F_findMates u0 Kv v 77 [] []) : ∀ (n : Nat) (x2 : Int32) (u : PS), p_F_findMates_L23 x0 x1 E77 n x2 u → XN l Z i_F_findMates u0 Kv u 23 [(0, .ref x0), (1, .ref x1), (2, .int x2)] [] := by
  intro n
  induction n with
  | zero => intro x2 u k; exact False.elim k
  | succ n ih =>
    intro x2 u k
    rw [p_F_findMates_L23] at k
    by_cases hc1 : x2 = 0
    · have k := k.1 hc1
      obtain ⟨rv, v9, hK, hle_u, w9⟩ := hE77 u k
      refine ⟨rv, v9, hK, hle_u, ?_⟩
      intro p e s m args below meth c A H locs ls F hw hl
      obtain ⟨⟨hx, hb, hml, hown, hts⟩, hr, hlocks, hmn⟩ := id F
      refine lv_iload_n hx hb d_F_findMates_23 rfl (lv_at hl 2 rfl) ?_
      refine lv_if_eq (tgt := 77) hx hb d_F_findMates_24 (by decide) (fun _ => ?_) (fun c9 => absurd hc1 c9)
      exact w9 p e s m args below meth c A H locs ls F hw (lv_sub hl [] rfl)
    · have k := k.2 hc1
      obtain ⟨z_22, h2, k⟩ := k
      obtain ⟨_, u_23, ⟨r_24, rfl, k⟩, hM3⟩ := c_JI_numberOfTrailingZeros l Z x2 u _ k
      obtain ⟨z_25, h4, k⟩ := k
      obtain ⟨n5, k⟩ := k
      have hx7 : ∀ (v6 : PS), (p_F_findMates_J68 (p_F_findMates_L23 x0 x1 E77 n) E77 x0 x1 x2 v6) → XN l Z i_F_findMates u0 Kv v6 68 [(0, .ref x0), (1, .ref x1), (2, .int x2)] [] := by
        intro v6 k
        obtain ⟨rv, v9, hK, hle_v6, w9⟩ := t_F_findMates_J68 l Z u0 x0 x1 x2 v6 ih hE77 k
        refine ⟨rv, v9, hK, hle_v6, ?_⟩
        intro p e s m args below meth c A H locs ls F hw hl
        obtain ⟨⟨hx, hb, hml, hown, hts⟩, hr, hlocks, hmn⟩ := id F
        exact w9 p e s m args below meth c A H locs ls F hw (lv_sub hl [0, 1, 2] rfl)
      obtain ⟨rv, v9, hK, hle_u_23, w9⟩ := t_F_findMates_L40 l Z u0 x0 x1 x2 z_25 hx7 n5 z_25 u_23 k
      have hle_u : x_le u v9 := (hM3.1).tr hle_u_23
      refine ⟨rv, v9, hK, hle_u, ?_⟩
      intro p e s m args below meth c A H locs ls F hw hl
      obtain ⟨⟨hx, hb, hml, hown, hts⟩, hr, hlocks, hmn⟩ := id F
      refine lv_iload_n hx hb d_F_findMates_23 rfl (lv_at hl 2 rfl) ?_
      refine lv_if_eq (tgt := 77) hx hb d_F_findMates_24 (by decide) (fun c9 => absurd c9 hc1) (fun _ => ?_)
      refine lv_aload_n hx hb d_F_findMates_27 rfl (lv_at hl 0 rfl) ?_
      refine xr_get hx hb hts (xmu uws_F) hown hw h2 rfl (by decide) (hts _ (xm w_35)) (fun _ h9 => h9) d_F_findMates_28 ?_
      refine lv_iload_n hx hb d_F_findMates_31 rfl (lv_at hl 2 rfl) ?_
      refine xr_cS (As := [.int x2]) (rest := [.ref z_22]) ⟨hx, hb, hml, hown, hts⟩ hw hM3 hle_u_23 (fun _ _ => ⟨callB_of 1 hts (xgood w_68) rfl rfl rfl (hts _ (xm w_5)) (hts _ (xm w_256)) ⟨by decide, by decide, by decide +kernel⟩ ⟨Nat.le_of_ble_eq_true rfl, Nat.le_of_ble_eq_true rfl⟩, (hts _ (xm w_67))⟩) rfl hl.1 rfl (Nat.le_of_ble_eq_true rfl) d_F_findMates_32 (fun H locs hw => ?_)
      refine W.eq (g2 := F0 m 35 ls [.int r_24, .ref z_22]) rfl ?_
      refine xr_iald hx hb hw h4 d_F_findMates_35 ?_
      refine lv_istore_n (lv' := [(3, .int z_25), (0, .ref x0), (1, .ref x1), (2, .int x2)]) hx hb d_F_findMates_36 rfl hl (by decide) rfl (fun ls hl => ?_)
      refine lv_iload_n hx hb d_F_findMates_37 rfl (lv_at hl 0 rfl) ?_
      refine lv_istore (lv' := [(4, .int z_25), (3, .int z_25), (0, .ref x0), (1, .ref x1), (2, .int x2)]) hx hb d_F_findMates_38 hl (by decide) rfl (fun ls hl => ?_)
      exact w9 p e s m args below meth c A H locs ls F hw (lv_sub hl [2, 3, 4, 1, 0] rfl)
set_option maxRecDepth 100000 in
set_option maxHeartbeats 4000000 in
theorem t_F_findMates_J18 (l : Launch) (Z : XZ) (u0 : PS) {K : PS → Prop} (x0 : Nat) (x1 : Nat) (u : PS) (k : (p_F_findMates_J18 K x0 x1 u)) : XN l Z i_F_findMates u0 (kV K) u 18 [(0, .ref x0), (1, .ref x1)] [] := by
  unfold p_F_findMates_J18 at k
  obtain ⟨z_21, h1, k⟩ := k
  obtain ⟨n2, k⟩ := k
  have hx4 : ∀ (v3 : PS), (K v3) → XN l Z i_F_findMates u0 (kV K) v3 77 [] [] := by
    intro v3 k
    have hle_v3 : x_le v3 v3 := x_le.rf v3
    refine ⟨none, v3, ⟨rfl, k⟩, hle_v3, ?_⟩
    intro p e s m args below meth c A H locs ls F hw hl
    obtain ⟨⟨hx, hb, hml, hown, hts⟩, hr, hlocks, hmn⟩ := id F
    exact xr_vret F rfl hw d_F_findMates_77
  obtain ⟨rv, v9, hK, hle_u, w9⟩ := t_F_findMates_L23 l Z u0 x0 x1 hx4 n2 z_21 u k
  refine ⟨rv, v9, hK, hle_u, ?_⟩
  intro p e s m args below meth c A H locs ls F hw hl
  obtain ⟨⟨hx, hb, hml, hown, hts⟩, hr, hlocks, hmn⟩ := id F
  refine lv_aload_n hx hb d_F_findMates_18 rfl (lv_at hl 0 rfl) ?_
  refine xr_get hx hb hts (xmu uws_F) hown hw h1 rfl (by decide) (hts _ (xm w_37)) (fun _ h9 => h9) d_F_findMates_19 ?_
  refine lv_istore_n (lv' := [(2, .int z_21), (0, .ref x0), (1, .ref x1)]) hx hb d_F_findMates_22 rfl hl (by decide) rfl (fun ls hl => ?_)
  exact w9 p e s m args below meth c A H locs ls F hw (lv_sub hl [1, 2, 0] rfl)
set_option maxRecDepth 100000 in
set_option maxHeartbeats 4000000 in
theorem c_F_findMates (l : Launch) (Z : XZ) (x0 : Nat) (x1 : Nat) (u : PS) (K : PS → Prop) (k : p_F_findMates x0 x1 u K) : ∃ (rv : Option Value) (u1 : PS), (kV K) rv u1 ∧ XMet l Z i_F_findMates [.ref x0, .ref x1] u rv u1 := by
  refine x_met (by decide) rfl (Nat.le_of_ble_eq_true rfl) ?_
  show XN l Z i_F_findMates u (kV K) u 0 [(0, .ref x0), (1, .ref x1)] []
  unfold p_F_findMates at k
  obtain ⟨n1, k⟩ := k
  have hx3 : ∀ (v2 : PS), (p_F_findMates_J18 K x0 x1 v2) → XN l Z i_F_findMates u (kV K) v2 18 [(0, .ref x0), (1, .ref x1)] [] := by
    intro v2 k
    obtain ⟨rv, v9, hK, hle_v2, w9⟩ := t_F_findMates_J18 l Z u x0 x1 v2 k
    refine ⟨rv, v9, hK, hle_v2, ?_⟩
    intro p e s m args below meth c A H locs ls F hw hl
    obtain ⟨⟨hx, hb, hml, hown, hts⟩, hr, hlocks, hmn⟩ := id F
    exact w9 p e s m args below meth c A H locs ls F hw (lv_sub hl [0, 1] rfl)
  obtain ⟨rv, v9, hK, hle_u, w9⟩ := t_F_findMates_L2 l Z u x0 x1 hx3 n1 (0 : Int32) u k
  refine ⟨rv, v9, hK, hle_u, ?_⟩
  intro p e s m args below meth c A H locs ls F hw hl
  obtain ⟨⟨hx, hb, hml, hown, hts⟩, hr, hlocks, hmn⟩ := id F
  refine lv_iconst (v := 0) hx hb d_F_findMates_0 (by decide) ?_
  refine lv_istore_n (lv' := [(2, .int 0), (0, .ref x0), (1, .ref x1)]) hx hb d_F_findMates_1 rfl hl (by decide) rfl (fun ls hl => ?_)
  exact w9 p e s m args below meth c A H locs ls F hw (lv_sub hl [1, 2, 0] rfl)
set_option maxRecDepth 100000 in
set_option maxHeartbeats 4000000 in
theorem t_N_init_L106 (l : Launch) (Z : XZ) (u0 : PS) {Kv : Option Value → PS → Prop} {E133 : PS → Prop} (x0 : Nat) (hE133 : ∀ (v : PS), E133 v → XN l Z i_N_init u0 Kv v 133 [] []) : ∀ (n : Nat) (x1 : Int32) (u : PS), p_N_init_L106 x0 E133 n x1 u → XN l Z i_N_init u0 Kv u 106 [(0, .ref x0), (1, .int x1)] [] := by
  intro n
  induction n with
  | zero => intro x1 u k; exact False.elim k
  | succ n ih =>
    intro x1 u k
    rw [p_N_init_L106] at k
    by_cases hc1 : 2 ≤ x1
    · have k := k.1 hc1
      obtain ⟨rv, v9, hK, hle_u, w9⟩ := hE133 u k
      refine ⟨rv, v9, hK, hle_u, ?_⟩
      intro p e s m args below meth c A H locs ls F hw hl
      obtain ⟨⟨hx, hb, hml, hown, hts⟩, hr, hlocks, hmn⟩ := id F
      refine lv_iload_n hx hb d_N_init_106 rfl (lv_at hl 1 rfl) ?_
      refine lv_iconst (v := 2) hx hb d_N_init_107 (by decide) ?_
      refine lv_icmp_ge (tgt := 133) hx hb d_N_init_108 (by decide) (fun _ => ?_) (fun c9 => absurd hc1 c9)
      exact w9 p e s m args below meth c A H locs ls F hw (lv_sub hl [] rfl)
    · have k := k.2 hc1
      obtain ⟨z_70, h2, k⟩ := k
      obtain ⟨u_71, h3, k⟩ := k
      obtain ⟨z_72, h4, k⟩ := k
      obtain ⟨u_73, h5, k⟩ := k
      obtain ⟨y6, ey6⟩ : ∃ y9 : Int32, y9 = x1 + 1 := ⟨_, rfl⟩
      have k := k y6 ey6
      obtain ⟨rv, v9, hK, hle_u_73, w9⟩ := ih y6 u_73 k
      have hle_u_71 : x_le u_71 v9 := (h5.le).tr hle_u_73
      have hle_u : x_le u v9 := (h3.le).tr hle_u_71
      refine ⟨rv, v9, hK, hle_u, ?_⟩
      intro p e s m args below meth c A H locs ls F hw hl
      obtain ⟨⟨hx, hb, hml, hown, hts⟩, hr, hlocks, hmn⟩ := id F
      refine lv_iload_n hx hb d_N_init_106 rfl (lv_at hl 1 rfl) ?_
      refine lv_iconst (v := 2) hx hb d_N_init_107 (by decide) ?_
      refine lv_icmp_ge (tgt := 133) hx hb d_N_init_108 (by decide) (fun c9 => absurd c9 hc1) (fun _ => ?_)
      refine lv_aload_n hx hb d_N_init_111 rfl (lv_at hl 0 rfl) ?_
      refine xr_get hx hb hts (xmu uws_N) hown hw h2 rfl (by decide) (hts _ (xm w_72)) (fun _ h9 => h9) d_N_init_112 ?_
      refine lv_iload_n hx hb d_N_init_115 rfl (lv_at hl 1 rfl) ?_
      refine lv_ldc (v := (-1610612736)) hx hb hown (hts _ (xm w_70)) d_N_init_116 ?_
      refine xr_iast hx hb hw h3 d_N_init_118 (fun H locs hw => ?_)
      refine lv_aload_n hx hb d_N_init_119 rfl (lv_at hl 0 rfl) ?_
      refine xr_get hx hb hts (xmu uws_N) hown hw h4 rfl (by decide) (hts _ (xm w_74)) (fun _ h9 => h9) d_N_init_120 ?_
      refine lv_iload_n hx hb d_N_init_123 rfl (lv_at hl 1 rfl) ?_
      refine lv_ldc (v := 1073741824) hx hb hown (hts _ (xm w_71)) d_N_init_124 ?_
      refine xr_iast hx hb hw h5 d_N_init_126 (fun H locs hw => ?_)
      refine lv_iinc (v := y6) (lv' := [(1, .int y6), (0, .ref x0)]) hx hb d_N_init_127 hl (k := 1) rfl (by subst ey6; rfl) (by decide) rfl (fun ls hl => ?_)
      refine lv_goto (tgt := 106) hx hb d_N_init_130 (by decide) ?_
      exact w9 p e s m args below meth c A H locs ls F hw (lv_sub hl [1, 0] rfl)
set_option maxRecDepth 100000 in
set_option maxHeartbeats 4000000 in
theorem c_N_init (l : Launch) (Z : XZ) (x0 : Nat) (u : PS) (K : PS → Prop) (k : p_N_init x0 u K) : ∃ (rv : Option Value) (u1 : PS), (kV K) rv u1 ∧ XMet l Z i_N_init [.ref x0] u rv u1 := by
  refine x_met (by decide) rfl (Nat.le_of_ble_eq_true rfl) ?_
  show XN l Z i_N_init u (kV K) u 0 [(0, .ref x0)] []
  unfold p_N_init at k
  obtain ⟨a_39, u_40, h1, k⟩ := k
  obtain ⟨u_41, h2, k⟩ := k
  obtain ⟨a_42, u_43, h3, k⟩ := k
  obtain ⟨u_44, h4, k⟩ := k
  obtain ⟨a_45, u_46, h5, k⟩ := k
  obtain ⟨u_47, h6, k⟩ := k
  obtain ⟨a_48, u_49, h7, k⟩ := k
  obtain ⟨u_50, h8, k⟩ := k
  obtain ⟨a_51, u_52, h9, k⟩ := k
  obtain ⟨u_53, h10, k⟩ := k
  obtain ⟨a_54, u_55, h11, k⟩ := k
  obtain ⟨u_56, h12, k⟩ := k
  obtain ⟨a_57, u_58, h13, k⟩ := k
  obtain ⟨u_59, h14, k⟩ := k
  obtain ⟨_, u_60, ⟨r_61, rfl, k⟩, hM15⟩ := c_JI_numberOfTrailingZeros l Z (64 : Int32) u_59 _ k
  obtain ⟨u_62, h16, k⟩ := k
  obtain ⟨u_63, h17, k⟩ := k
  obtain ⟨u_64, h18, k⟩ := k
  obtain ⟨u_65, h19, k⟩ := k
  obtain ⟨a_66, u_67, h20, k⟩ := k
  obtain ⟨u_68, h21, k⟩ := k
  obtain ⟨u_69, h22, k⟩ := k
  obtain ⟨n23, k⟩ := k
  have hx25 : ∀ (v24 : PS), (K v24) → XN l Z i_N_init u (kV K) v24 133 [] [] := by
    intro v24 k
    have hle_v24 : x_le v24 v24 := x_le.rf v24
    refine ⟨none, v24, ⟨rfl, k⟩, hle_v24, ?_⟩
    intro p e s m args below meth c A H locs ls F hw hl
    obtain ⟨⟨hx, hb, hml, hown, hts⟩, hr, hlocks, hmn⟩ := id F
    exact xr_vret F rfl hw d_N_init_133
  obtain ⟨rv, v9, hK, hle_u_69, w9⟩ := t_N_init_L106 l Z u x0 hx25 n23 (0 : Int32) u_69 k
  have hle_u_68 : x_le u_68 v9 := (h22.le).tr hle_u_69
  have hle_u_67 : x_le u_67 v9 := (h21.le).tr hle_u_68
  have hle_u_65 : x_le u_65 v9 := (h20.le).tr hle_u_67
  have hle_u_64 : x_le u_64 v9 := (h19.le).tr hle_u_65
  have hle_u_63 : x_le u_63 v9 := (h18.le).tr hle_u_64
  have hle_u_62 : x_le u_62 v9 := (h17.le).tr hle_u_63
  have hle_u_60 : x_le u_60 v9 := (h16.le).tr hle_u_62
  have hle_u_59 : x_le u_59 v9 := (hM15.1).tr hle_u_60
  have hle_u_58 : x_le u_58 v9 := (h14.le).tr hle_u_59
  have hle_u_56 : x_le u_56 v9 := (h13.le).tr hle_u_58
  have hle_u_55 : x_le u_55 v9 := (h12.le).tr hle_u_56
  have hle_u_53 : x_le u_53 v9 := (h11.le).tr hle_u_55
  have hle_u_52 : x_le u_52 v9 := (h10.le).tr hle_u_53
  have hle_u_50 : x_le u_50 v9 := (h9.le).tr hle_u_52
  have hle_u_49 : x_le u_49 v9 := (h8.le).tr hle_u_50
  have hle_u_47 : x_le u_47 v9 := (h7.le).tr hle_u_49
  have hle_u_46 : x_le u_46 v9 := (h6.le).tr hle_u_47
  have hle_u_44 : x_le u_44 v9 := (h5.le).tr hle_u_46
  have hle_u_43 : x_le u_43 v9 := (h4.le).tr hle_u_44
  have hle_u_41 : x_le u_41 v9 := (h3.le).tr hle_u_43
  have hle_u_40 : x_le u_40 v9 := (h2.le).tr hle_u_41
  have hle_u : x_le u v9 := (h1.le).tr hle_u_40
  refine ⟨rv, v9, hK, hle_u, ?_⟩
  intro p e s m args below meth c A H locs ls F hw hl
  obtain ⟨⟨hx, hb, hml, hown, hts⟩, hr, hlocks, hmn⟩ := id F
  refine lv_aload_n hx hb d_N_init_0 rfl (lv_at hl 0 rfl) ?_
  refine W.objInit hx hb hown (hts _ (xm w_63)) (hts _ (xm w_23)) (hts _ (xm w_24)) rfl (by rw [hml]; exact hl.1) rfl d_N_init_1 (Nat.le_of_ble_eq_true rfl) (Nat.le_of_ble_eq_true rfl) ?_
  refine W.eq (g2 := F0 m 4 ls []) rfl ?_
  refine lv_aload_n hx hb d_N_init_4 rfl (lv_at hl 0 rfl) ?_
  refine lv_bipush (v := 64) hx hb d_N_init_5 (by decide) ?_
  refine xr_newai hx hb rfl (hts _ (xm w_51)) hw h1 hle_u_40 d_N_init_7 (fun H hw => ?_)
  refine xr_put (ty := .array .int) hx hb hts (xmu uws_N) tyc_N tyc_N_ok nmc_N hown hw h2 rfl (by decide) (hts _ (xm w_72)) (fun _ h9 => h9) rfl (by decide +kernel) rfl rfl d_N_init_9 (fun H locs hw => ?_)
  refine lv_aload_n hx hb d_N_init_12 rfl (lv_at hl 0 rfl) ?_
  refine lv_bipush (v := 64) hx hb d_N_init_13 (by decide) ?_
  refine xr_newai hx hb rfl (hts _ (xm w_51)) hw h3 hle_u_43 d_N_init_15 (fun H hw => ?_)
  refine xr_put (ty := .array .int) hx hb hts (xmu uws_N) tyc_N tyc_N_ok nmc_N hown hw h4 rfl (by decide) (hts _ (xm w_74)) (fun _ h9 => h9) rfl (by decide +kernel) rfl rfl d_N_init_17 (fun H locs hw => ?_)
  refine lv_aload_n hx hb d_N_init_20 rfl (lv_at hl 0 rfl) ?_
  refine lv_bipush (v := 10) hx hb d_N_init_21 (by decide) ?_
  refine lv_bipush (v := 8) hx hb d_N_init_23 (by decide) ?_
  refine xr_multi (ty := .int) hx hb hown (hts _ (xm w_64)) (hw.2.2.2.2.2.1.over wo_I _) (hts _ (xm w_51)) hw (hw.1.2 2 _ rfl).2 (hw.1.2 0 _ rfl).2 (fun k9 h9 => by show k9 * 4 ≤ _; omega) rfl rfl (fun c9 k9 => x_innerI c9 k9) h5 hle_u_46 d_N_init_25 (fun H hw => ?_)
  refine xr_putF (ty := .array (.array .int)) hx hb hts (xmu uws_N) tyc_N tyc_N_ok nmc_N hown hw h6 rfl (by decide) (hts _ (xm w_76)) (fun _ h9 => h9) rfl hmn rfl (by decide +kernel) rfl rfl d_N_init_29 (fun H locs hw => ?_)
  refine lv_aload_n hx hb d_N_init_32 rfl (lv_at hl 0 rfl) ?_
  refine lv_bipush (v := 10) hx hb d_N_init_33 (by decide) ?_
  refine xr_newai hx hb rfl (hts _ (xm w_51)) hw h7 hle_u_49 d_N_init_35 (fun H hw => ?_)
  refine xr_putF (ty := .array .int) hx hb hts (xmu uws_N) tyc_N tyc_N_ok nmc_N hown hw h8 rfl (by decide) (hts _ (xm w_78)) (fun _ h9 => h9) rfl hmn rfl (by decide +kernel) rfl rfl d_N_init_37 (fun H locs hw => ?_)
  refine lv_aload_n hx hb d_N_init_40 rfl (lv_at hl 0 rfl) ?_
  refine lv_bipush (v := 64) hx hb d_N_init_41 (by decide) ?_
  refine xr_newai hx hb rfl (hts _ (xm w_51)) hw h9 hle_u_52 d_N_init_43 (fun H hw => ?_)
  refine xr_put (ty := .array .int) hx hb hts (xmu uws_N) tyc_N tyc_N_ok nmc_N hown hw h10 rfl (by decide) (hts _ (xm w_80)) (fun _ h9 => h9) rfl (by decide +kernel) rfl rfl d_N_init_45 (fun H locs hw => ?_)
  refine lv_aload_n hx hb d_N_init_48 rfl (lv_at hl 0 rfl) ?_
  refine lv_bipush (v := 64) hx hb d_N_init_49 (by decide) ?_
  refine xr_newai hx hb rfl (hts _ (xm w_51)) hw h11 hle_u_55 d_N_init_51 (fun H hw => ?_)
  refine xr_put (ty := .array .int) hx hb hts (xmu uws_N) tyc_N tyc_N_ok nmc_N hown hw h12 rfl (by decide) (hts _ (xm w_81)) (fun _ h9 => h9) rfl (by decide +kernel) rfl rfl d_N_init_53 (fun H locs hw => ?_)
  refine lv_aload_n hx hb d_N_init_56 rfl (lv_at hl 0 rfl) ?_
  refine lv_bipush (v := 64) hx hb d_N_init_57 (by decide) ?_
  refine xr_newai hx hb rfl (hts _ (xm w_51)) hw h13 hle_u_58 d_N_init_59 (fun H hw => ?_)
  refine xr_put (ty := .array .int) hx hb hts (xmu uws_N) tyc_N tyc_N_ok nmc_N hown hw h14 rfl (by decide) (hts _ (xm w_82)) (fun _ h9 => h9) rfl (by decide +kernel) rfl rfl d_N_init_61 (fun H locs hw => ?_)
  refine lv_aload_n hx hb d_N_init_64 rfl (lv_at hl 0 rfl) ?_
  refine lv_bipush (v := 32) hx hb d_N_init_65 (by decide) ?_
  refine lv_bipush (v := 64) hx hb d_N_init_67 (by decide) ?_
  refine xr_cS (As := [.int 64]) (rest := [.int 32, .ref x0]) ⟨hx, hb, hml, hown, hts⟩ hw hM15 hle_u_60 (fun _ _ => ⟨callB_of 1 hts (xgood w_68) rfl rfl rfl (hts _ (xm w_5)) (hts _ (xm w_66)) ⟨by decide, by decide, by decide +kernel⟩ ⟨Nat.le_of_ble_eq_true rfl, Nat.le_of_ble_eq_true rfl⟩, (hts _ (xm w_67))⟩) rfl hl.1 rfl (Nat.le_of_ble_eq_true rfl) d_N_init_69 (fun H locs hw => ?_)
  refine W.eq (g2 := F0 m 72 ls [.int r_61, .int 32, .ref x0]) rfl ?_
  refine lv_isub hx hb d_N_init_72 ?_
  refine xr_put (ty := .int) hx hb hts (xmu uws_N) tyc_N tyc_N_ok nmc_N hown hw h16 rfl (by decide) (hts _ (xm w_83)) (fun _ h9 => h9) rfl (by decide +kernel) rfl rfl d_N_init_73 (fun H locs hw => ?_)
  refine lv_aload_n hx hb d_N_init_76 rfl (lv_at hl 0 rfl) ?_
  refine lv_iconst (v := 0) hx hb d_N_init_77 (by decide) ?_
  refine xr_put (ty := .int) hx hb hts (xmu uws_N) tyc_N tyc_N_ok nmc_N hown hw h17 rfl (by decide) (hts _ (xm w_84)) (fun _ h9 => h9) rfl (by decide +kernel) rfl rfl d_N_init_78 (fun H locs hw => ?_)
  refine lv_aload_n hx hb d_N_init_81 rfl (lv_at hl 0 rfl) ?_
  refine lv_iconst (v := 2) hx hb d_N_init_82 (by decide) ?_
  refine xr_put (ty := .int) hx hb hts (xmu uws_N) tyc_N tyc_N_ok nmc_N hown hw h18 rfl (by decide) (hts _ (xm w_85)) (fun _ h9 => h9) rfl (by decide +kernel) rfl rfl d_N_init_83 (fun H locs hw => ?_)
  refine lv_aload_n hx hb d_N_init_86 rfl (lv_at hl 0 rfl) ?_
  refine lv_iconst (v := 0) hx hb d_N_init_87 (by decide) ?_
  refine xr_put (ty := .int) hx hb hts (xmu uws_N) tyc_N tyc_N_ok nmc_N hown hw h19 rfl (by decide) (hts _ (xm w_87)) (fun _ h9 => h9) rfl (by decide +kernel) rfl rfl d_N_init_88 (fun H locs hw => ?_)
  refine lv_aload_n hx hb d_N_init_91 rfl (lv_at hl 0 rfl) ?_
  refine lv_bipush (v := 64) hx hb d_N_init_92 (by decide) ?_
  refine xr_newai hx hb rfl (hts _ (xm w_51)) hw h20 hle_u_67 d_N_init_94 (fun H hw => ?_)
  refine xr_put (ty := .array .int) hx hb hts (xmu uws_N) tyc_N tyc_N_ok nmc_N hown hw h21 rfl (by decide) (hts _ (xm w_88)) (fun _ h9 => h9) rfl (by decide +kernel) rfl rfl d_N_init_96 (fun H locs hw => ?_)
  refine lv_aload_n hx hb d_N_init_99 rfl (lv_at hl 0 rfl) ?_
  refine lv_iconst (v := 0) hx hb d_N_init_100 (by decide) ?_
  refine xr_put (ty := .int) hx hb hts (xmu uws_N) tyc_N tyc_N_ok nmc_N hown hw h22 rfl (by decide) (hts _ (xm w_89)) (fun _ h9 => h9) rfl (by decide +kernel) rfl rfl d_N_init_101 (fun H locs hw => ?_)
  refine lv_iconst (v := 0) hx hb d_N_init_104 (by decide) ?_
  refine lv_istore_n (lv' := [(1, .int 0), (0, .ref x0)]) hx hb d_N_init_105 rfl hl (by decide) rfl (fun ls hl => ?_)
  exact w9 p e s m args below meth c A H locs ls F hw (lv_sub hl [1, 0] rfl)
