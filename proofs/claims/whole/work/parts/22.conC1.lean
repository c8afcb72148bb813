set_option maxRecDepth 100000 in
set_option maxHeartbeats 4000000 in
theorem t_F_restrict_J49 (l : Launch) (Z : XZ) (u0 : PS) {K : PS → Prop} (x0 : Nat) (x1 : Int32) (x5 : Int32) (u : PS) (k : (p_F_restrict_J49 K x0 x1 x5 u)) : XN l Z i_F_restrict u0 (kV K) u 49 [(0, .ref x0), (1, .int x1), (5, .int x5)] [] := by
  unfold p_F_restrict_J49 at k
  obtain ⟨h2, k⟩ := k
  obtain ⟨_, u_14, ⟨rfl, k⟩, hM1⟩ := c_F_putSpare l Z x0 x1 x5 u _ k
  have hle_u_14 : x_le u_14 u_14 := x_le.rf u_14
  have hle_u : x_le u u_14 := (hM1.1).tr hle_u_14
  refine ⟨none, u_14, ⟨rfl, k⟩, hle_u, ?_⟩
  intro p e s m args below meth c A H locs ls F hw hl
  obtain ⟨⟨hx, hb, hml, hown, hts⟩, hr, hlocks, hmn⟩ := id F
  refine lv_aload_n hx hb d_F_restrict_49 rfl (lv_at hl 0 rfl) ?_
  refine lv_iload_n hx hb d_F_restrict_50 rfl (lv_at hl 1 rfl) ?_
  refine lv_iload hx hb d_F_restrict_51 (lv_at hl 2 rfl) ?_
  refine xr_cV (As := [.int x1, .int x5]) (rest := []) ⟨hx, hb, hml, hown, hts⟩ hw hM1 hle_u_14 (fun _ _ => ⟨callB_of 2 hts (xgood w_649) rfl rfl rfl (hts _ (xm w_2)) (hts _ (xm w_646)) ⟨by decide, by decide, by decide +kernel⟩ ⟨Nat.le_of_ble_eq_true rfl, Nat.le_of_ble_eq_true rfl⟩, (hts _ (xm w_648)), (hts _ (xm wp_31))⟩) (qc := (R_F, F_F, 5)) rfl rfl h2 rfl hl.1 rfl (Nat.le_of_ble_eq_true rfl) d_F_restrict_53 (fun H locs hw => ?_)
  refine W.eq (g2 := F0 m 56 ls []) rfl ?_
  exact xr_vret F rfl hw d_F_restrict_56
set_option maxRecDepth 100000 in
set_option maxHeartbeats 4000000 in
theorem c_F_restrict (l : Launch) (Z : XZ) (x0 : Nat) (x1 : Int32) (x2 : Int32) (x3 : Int32) (x4 : Int32) (u : PS) (K : PS → Prop) (k : p_F_restrict x0 x1 x2 x3 x4 u K) : ∃ (rv : Option Value) (u1 : PS), (kV K) rv u1 ∧ XMet l Z i_F_restrict [.ref x0, .int x1, .int x2, .int x3, .int x4] u rv u1 := by
  refine x_met (by decide) rfl (Nat.le_of_ble_eq_true rfl) ?_
  show XN l Z i_F_restrict u (kV K) u 0 [(0, .ref x0), (1, .int x1), (2, .int x2), (3, .int x3), (4, .int x4)] []
  unfold p_F_restrict at k
  obtain ⟨z_9, h1, k⟩ := k
  obtain ⟨z_10, h2, k⟩ := k
  obtain ⟨y3, ey3⟩ : ∃ y9 : Int32, y9 = (z_10 &&& (((1 : Int32) <<< (x3 &&& 31)) ^^^ (-1 : Int32))) := ⟨_, rfl⟩
  have k := k y3 ey3
  by_cases hc4 : 6 ≤ x3
  · have k := k.1 hc4
    obtain ⟨z_11, h5, k⟩ := k
    obtain ⟨z_12, h6, k⟩ := k
    obtain ⟨h8, k⟩ := k
    obtain ⟨_, u_13, ⟨rfl, k⟩, hM7⟩ := c_F_restrictWords l Z x0 x2 y3 ((x4 <<< (x3 &&& 31)) &&& z_12) u _ k
    obtain ⟨rv, v9, hK, hle_u_13, w9⟩ := t_F_restrict_J49 l Z u x0 x1 y3 u_13 k
    have hle_u : x_le u v9 := (hM7.1).tr hle_u_13
    refine ⟨rv, v9, hK, hle_u, ?_⟩
    intro p e s m args below meth c A H locs ls F hw hl
    obtain ⟨⟨hx, hb, hml, hown, hts⟩, hr, hlocks, hmn⟩ := id F
    refine lv_aload_n hx hb d_F_restrict_0 rfl (lv_at hl 0 rfl) ?_
    refine xr_get hx hb hts (xmu uws_F) hown hw h1 rfl (by decide) (hts _ (xm w_35)) (fun _ h9 => h9) d_F_restrict_1 ?_
    refine lv_iload_n hx hb d_F_restrict_4 rfl (lv_at hl 2 rfl) ?_
    refine xr_iald hx hb hw h2 d_F_restrict_5 ?_
    refine lv_iconst (v := 1) hx hb d_F_restrict_6 (by decide) ?_
    refine lv_iload_n hx hb d_F_restrict_7 rfl (lv_at hl 3 rfl) ?_
    refine lv_ishl hx hb d_F_restrict_8 ?_
    refine lv_iconst (v := (-1)) hx hb d_F_restrict_9 (by decide) ?_
    refine lv_ixor hx hb d_F_restrict_10 ?_
    refine lv_iand hx hb d_F_restrict_11 ?_
    refine lv_istore (lv' := [(5, .int y3), (0, .ref x0), (1, .int x1), (2, .int x2), (3, .int x3), (4, .int x4)]) hx hb d_F_restrict_12 hl (by decide) (by subst ey3; rfl) (fun ls hl => ?_)
    refine lv_iload_n hx hb d_F_restrict_14 rfl (lv_at hl 4 rfl) ?_
    refine lv_bipush (v := 6) hx hb d_F_restrict_15 (by decide) ?_
    refine lv_icmp_ge (tgt := 31) hx hb d_F_restrict_17 (by decide) (fun _ => ?_) (fun c9 => absurd hc4 c9)
    refine lv_aload_n hx hb d_F_restrict_31 rfl (lv_at hl 1 rfl) ?_
    refine lv_iload_n hx hb d_F_restrict_32 rfl (lv_at hl 3 rfl) ?_
    refine lv_iload hx hb d_F_restrict_33 (lv_at hl 0 rfl) ?_
    refine lv_iload hx hb d_F_restrict_35 (lv_at hl 5 rfl) ?_
    refine lv_iload_n hx hb d_F_restrict_37 rfl (lv_at hl 4 rfl) ?_
    refine lv_ishl hx hb d_F_restrict_38 ?_
    refine lv_aload_n hx hb d_F_restrict_39 rfl (lv_at hl 1 rfl) ?_
    refine xr_get hx hb hts (xmu uws_F) hown hw h5 rfl (by decide) (hts _ (xm w_35)) (fun _ h9 => h9) d_F_restrict_40 ?_
    refine lv_iload_n hx hb d_F_restrict_43 rfl (lv_at hl 3 rfl) ?_
    refine xr_iald hx hb hw h6 d_F_restrict_44 ?_
    refine lv_iand hx hb d_F_restrict_45 ?_
    refine xr_cV (As := [.int x2, .int y3, .int ((x4 <<< (x3 &&& 31)) &&& z_12)]) (rest := []) ⟨hx, hb, hml, hown, hts⟩ hw hM7 hle_u_13 (fun _ _ => ⟨callB_of 3 hts (xgood w_679) rfl rfl rfl (hts _ (xm w_2)) (hts _ (xm w_676)) ⟨by decide, by decide, by decide +kernel⟩ ⟨Nat.le_of_ble_eq_true rfl, Nat.le_of_ble_eq_true rfl⟩, (hts _ (xm w_678)), (hts _ (xm wp_33))⟩) (qc := (R_F, F_F, 5)) rfl rfl h8 rfl hl.1 rfl (Nat.le_of_ble_eq_true rfl) d_F_restrict_46 (fun H locs hw => ?_)
    refine W.eq (g2 := F0 m 49 ls []) rfl ?_
    exact w9 p e s m args below meth c A H locs ls F hw (lv_sub hl [1, 2, 0] rfl)
  · have k := k.2 hc4
    obtain ⟨h10, k⟩ := k
    obtain ⟨_, u_15, ⟨rfl, k⟩, hM9⟩ := c_F_restrictWithinWords l Z x0 x2 x3 x4 u _ k
    obtain ⟨rv, v9, hK, hle_u_15, w9⟩ := t_F_restrict_J49 l Z u x0 x1 y3 u_15 k
    have hle_u : x_le u v9 := (hM9.1).tr hle_u_15
    refine ⟨rv, v9, hK, hle_u, ?_⟩
    intro p e s m args below meth c A H locs ls F hw hl
    obtain ⟨⟨hx, hb, hml, hown, hts⟩, hr, hlocks, hmn⟩ := id F
    refine lv_aload_n hx hb d_F_restrict_0 rfl (lv_at hl 0 rfl) ?_
    refine xr_get hx hb hts (xmu uws_F) hown hw h1 rfl (by decide) (hts _ (xm w_35)) (fun _ h9 => h9) d_F_restrict_1 ?_
    refine lv_iload_n hx hb d_F_restrict_4 rfl (lv_at hl 2 rfl) ?_
    refine xr_iald hx hb hw h2 d_F_restrict_5 ?_
    refine lv_iconst (v := 1) hx hb d_F_restrict_6 (by decide) ?_
    refine lv_iload_n hx hb d_F_restrict_7 rfl (lv_at hl 3 rfl) ?_
    refine lv_ishl hx hb d_F_restrict_8 ?_
    refine lv_iconst (v := (-1)) hx hb d_F_restrict_9 (by decide) ?_
    refine lv_ixor hx hb d_F_restrict_10 ?_
    refine lv_iand hx hb d_F_restrict_11 ?_
    refine lv_istore (lv' := [(5, .int y3), (0, .ref x0), (1, .int x1), (2, .int x2), (3, .int x3), (4, .int x4)]) hx hb d_F_restrict_12 hl (by decide) (by subst ey3; rfl) (fun ls hl => ?_)
    refine lv_iload_n hx hb d_F_restrict_14 rfl (lv_at hl 4 rfl) ?_
    refine lv_bipush (v := 6) hx hb d_F_restrict_15 (by decide) ?_
    refine lv_icmp_ge (tgt := 31) hx hb d_F_restrict_17 (by decide) (fun c9 => absurd c9 hc4) (fun _ => ?_)
    refine lv_aload_n hx hb d_F_restrict_20 rfl (lv_at hl 1 rfl) ?_
    refine lv_iload_n hx hb d_F_restrict_21 rfl (lv_at hl 3 rfl) ?_
    refine lv_iload_n hx hb d_F_restrict_22 rfl (lv_at hl 4 rfl) ?_
    refine lv_iload hx hb d_F_restrict_23 (lv_at hl 5 rfl) ?_
    refine xr_cV (As := [.int x2, .int x3, .int x4]) (rest := []) ⟨hx, hb, hml, hown, hts⟩ hw hM9 hle_u_15 (fun _ _ => ⟨callB_of 3 hts (xgood w_675) rfl rfl rfl (hts _ (xm w_2)) (hts _ (xm w_672)) ⟨by decide, by decide, by decide +kernel⟩ ⟨Nat.le_of_ble_eq_true rfl, Nat.le_of_ble_eq_true rfl⟩, (hts _ (xm w_674)), (hts _ (xm wp_32))⟩) (qc := (R_F, F_F, 5)) rfl rfl h10 rfl hl.1 rfl (Nat.le_of_ble_eq_true rfl) d_F_restrict_25 (fun H locs hw => ?_)
    refine W.eq (g2 := F0 m 28 ls []) rfl ?_
    refine lv_goto (tgt := 49) hx hb d_F_restrict_28 (by decide) ?_
    exact w9 p e s m args below meth c A H locs ls F hw (lv_sub hl [1, 2, 0] rfl)
set_option maxRecDepth 100000 in
set_option maxHeartbeats 4000000 in
theorem t_F_replaceWithinWords_L61 (l : Launch) (Z : XZ) (u0 : PS) {Kv : Option Value → PS → Prop} {E157 : PS → Prop} (x4 : Nat) (x5 : Nat) (x6 : Nat) (x7 : Int32) (x8 : Int32) (x9 : Int32) (x10 : Int64) (x12 : Int32) (hE157 : ∀ (v : PS), E157 v → XN l Z i_F_replaceWithinWords u0 Kv v 157 [] []) : ∀ (n : Nat) (x13 : Int32) (u : PS), p_F_replaceWithinWords_L61 x4 x5 x6 x7 x8 x9 x10 x12 E157 n x13 u → XN l Z i_F_replaceWithinWords u0 Kv u 61 [(4, .ref x4), (5, .ref x5), (6, .ref x6), (7, .int x7), (8, .int x8), (9, .int x9), (10, .long x10), (12, .int x12), (13, .int x13)] [] := by
  intro n
  induction n with
  | zero => intro x13 u k; exact False.elim k
  | succ n ih =>
    intro x13 u k
    rw [p_F_replaceWithinWords_L61] at k
    by_cases hc1 : 16 ≤ x13
    · have k := k.1 hc1
      obtain ⟨rv, v9, hK, hle_u, w9⟩ := hE157 u k
      refine ⟨rv, v9, hK, hle_u, ?_⟩
      intro p e s m args below meth c A H locs ls F hw hl
      obtain ⟨⟨hx, hb, hml, hown, hts⟩, hr, hlocks, hmn⟩ := id F
      refine lv_iload hx hb d_F_replaceWithinWords_61 (lv_at hl 8 rfl) ?_
      refine lv_bipush (v := 16) hx hb d_F_replaceWithinWords_63 (by decide) ?_
      refine lv_icmp_ge (tgt := 157) hx hb d_F_replaceWithinWords_65 (by decide) (fun _ => ?_) (fun c9 => absurd hc1 c9)
      exact w9 p e s m args below meth c A H locs ls F hw (lv_sub hl [] rfl)
    · have k := k.2 hc1
      obtain ⟨z_36, h2, k⟩ := k
      obtain ⟨z_37, h3, k⟩ := k
      obtain ⟨y4, ey4⟩ : ∃ y9 : Int64, y9 = (z_37 &&& x10) := ⟨_, rfl⟩
      have k := k y4 ey4
      obtain ⟨z_38, h5, k⟩ := k
      obtain ⟨y6, ey6⟩ : ∃ y9 : Int64, y9 = (z_38 &&& (x10 ^^^ (-1 : Int64))) := ⟨_, rfl⟩
      have k := k y6 ey6
      obtain ⟨u_39, h7, k⟩ := k
      obtain ⟨y8, ey8⟩ : ∃ y9 : Int32, y9 = (((x13 ||| x9) + (1 : Int32)) &&& (x9 ^^^ (-1 : Int32))) := ⟨_, rfl⟩
      have k := k y8 ey8
      obtain ⟨rv, v9, hK, hle_u_39, w9⟩ := ih y8 u_39 k
      have hle_u : x_le u v9 := (h7.le).tr hle_u_39
      refine ⟨rv, v9, hK, hle_u, ?_⟩
      intro p e s m args below meth c A H locs ls F hw hl
      obtain ⟨⟨hx, hb, hml, hown, hts⟩, hr, hlocks, hmn⟩ := id F
      refine lv_iload hx hb d_F_replaceWithinWords_61 (lv_at hl 8 rfl) ?_
      refine lv_bipush (v := 16) hx hb d_F_replaceWithinWords_63 (by decide) ?_
      refine lv_icmp_ge (tgt := 157) hx hb d_F_replaceWithinWords_65 (by decide) (fun c9 => absurd c9 hc1) (fun _ => ?_)
      refine lv_aload hx hb d_F_replaceWithinWords_68 (lv_at hl 1 rfl) ?_
      refine lv_iload hx hb d_F_replaceWithinWords_70 (lv_at hl 8 rfl) ?_
      refine lv_iload hx hb d_F_replaceWithinWords_72 (lv_at hl 4 rfl) ?_
      refine lv_iand hx hb d_F_replaceWithinWords_74 ?_
      refine xr_lald hx hb hw h2 d_F_replaceWithinWords_75 ?_
      refine lv_lstore (lv' := [(14, .long z_36), (4, .ref x4), (5, .ref x5), (6, .ref x6), (7, .int x7), (8, .int x8), (9, .int x9), (10, .long x10), (12, .int x12), (13, .int x13)]) hx hb d_F_replaceWithinWords_76 hl (by decide) rfl (fun ls hl => ?_)
      refine lv_aload hx hb d_F_replaceWithinWords_78 (lv_at hl 1 rfl) ?_
      refine lv_iload hx hb d_F_replaceWithinWords_80 (lv_at hl 9 rfl) ?_
      refine lv_iload hx hb d_F_replaceWithinWords_82 (lv_at hl 4 rfl) ?_
      refine lv_iand hx hb d_F_replaceWithinWords_84 ?_
      refine xr_lald hx hb hw h3 d_F_replaceWithinWords_85 ?_
      refine lv_lload hx hb d_F_replaceWithinWords_86 (lv_at hl 7 rfl) ?_
      refine lv_land hx hb d_F_replaceWithinWords_88 ?_
      refine lv_lstore (lv' := [(16, .long y4), (14, .long z_36), (4, .ref x4), (5, .ref x5), (6, .ref x6), (7, .int x7), (8, .int x8), (9, .int x9), (10, .long x10), (12, .int x12), (13, .int x13)]) hx hb d_F_replaceWithinWords_89 hl (by decide) (by subst ey4; rfl) (fun ls hl => ?_)
      refine lv_aload hx hb d_F_replaceWithinWords_91 (lv_at hl 2 rfl) ?_
      refine lv_iload hx hb d_F_replaceWithinWords_93 (lv_at hl 10 rfl) ?_
      refine lv_iload hx hb d_F_replaceWithinWords_95 (lv_at hl 5 rfl) ?_
      refine lv_iand hx hb d_F_replaceWithinWords_97 ?_
      refine xr_lald hx hb hw h5 d_F_replaceWithinWords_98 ?_
      refine lv_lload hx hb d_F_replaceWithinWords_99 (lv_at hl 8 rfl) ?_
      refine lv_ldc2 (v := (-1)) hx hb hown (hts _ (xm w_273)) d_F_replaceWithinWords_101 ?_
      refine lv_lxor hx hb d_F_replaceWithinWords_104 ?_
      refine lv_land hx hb d_F_replaceWithinWords_105 ?_
      refine lv_lstore (lv' := [(18, .long y6), (16, .long y4), (14, .long z_36), (4, .ref x4), (5, .ref x5), (6, .ref x6), (7, .int x7), (8, .int x8), (9, .int x9), (10, .long x10), (12, .int x12), (13, .int x13)]) hx hb d_F_replaceWithinWords_106 hl (by decide) (by subst ey6; rfl) (fun ls hl => ?_)
      refine lv_aload hx hb d_F_replaceWithinWords_108 (lv_at hl 5 rfl) ?_
      refine lv_iload hx hb d_F_replaceWithinWords_110 (lv_at hl 11 rfl) ?_
      refine lv_lload hx hb d_F_replaceWithinWords_112 (lv_at hl 2 rfl) ?_
      refine lv_lload hx hb d_F_replaceWithinWords_114 (lv_at hl 1 rfl) ?_
      refine lv_lload hx hb d_F_replaceWithinWords_116 (lv_at hl 1 rfl) ?_
      refine lv_iload hx hb d_F_replaceWithinWords_118 (lv_at hl 10 rfl) ?_
      refine lv_lushr hx hb d_F_replaceWithinWords_120 rfl ?_
      refine lv_lor hx hb d_F_replaceWithinWords_121 ?_
      refine lv_land hx hb d_F_replaceWithinWords_122 ?_
      refine lv_lload hx hb d_F_replaceWithinWords_123 (lv_at hl 2 rfl) ?_
      refine lv_ldc2 (v := (-1)) hx hb hown (hts _ (xm w_273)) d_F_replaceWithinWords_125 ?_
      refine lv_lxor hx hb d_F_replaceWithinWords_128 ?_
      refine lv_lload hx hb d_F_replaceWithinWords_129 (lv_at hl 0 rfl) ?_
      refine lv_lload hx hb d_F_replaceWithinWords_131 (lv_at hl 0 rfl) ?_
      refine lv_iload hx hb d_F_replaceWithinWords_133 (lv_at hl 10 rfl) ?_
      refine lv_lshl hx hb d_F_replaceWithinWords_135 rfl ?_
      refine lv_lor hx hb d_F_replaceWithinWords_136 ?_
      refine lv_land hx hb d_F_replaceWithinWords_137 ?_
      refine lv_lor hx hb d_F_replaceWithinWords_138 ?_
      refine xr_last hx hb hw h7 d_F_replaceWithinWords_139 (fun H locs hw => ?_)
      refine lv_iload hx hb d_F_replaceWithinWords_140 (lv_at hl 11 rfl) ?_
      refine lv_iload hx hb d_F_replaceWithinWords_142 (lv_at hl 8 rfl) ?_
      refine lv_ior hx hb d_F_replaceWithinWords_144 ?_
      refine lv_iconst (v := 1) hx hb d_F_replaceWithinWords_145 (by decide) ?_
      refine lv_iadd hx hb d_F_replaceWithinWords_146 ?_
      refine lv_iload hx hb d_F_replaceWithinWords_147 (lv_at hl 8 rfl) ?_
      refine lv_iconst (v := (-1)) hx hb d_F_replaceWithinWords_149 (by decide) ?_
      refine lv_ixor hx hb d_F_replaceWithinWords_150 ?_
      refine lv_iand hx hb d_F_replaceWithinWords_151 ?_
      refine lv_istore (lv' := [(13, .int y8), (18, .long y6), (16, .long y4), (14, .long z_36), (4, .ref x4), (5, .ref x5), (6, .ref x6), (7, .int x7), (8, .int x8), (9, .int x9), (10, .long x10), (12, .int x12)]) hx hb d_F_replaceWithinWords_152 hl (by decide) (by subst ey8; rfl) (fun ls hl => ?_)
      refine lv_goto (tgt := 61) hx hb d_F_replaceWithinWords_154 (by decide) ?_
      exact w9 p e s m args below meth c A H locs ls F hw (lv_sub hl [4, 5, 6, 7, 8, 9, 10, 11, 0] rfl)
set_option maxRecDepth 100000 in
set_option maxHeartbeats 4000000 in
theorem c_F_replaceWithinWords (l : Launch) (Z : XZ) (x0 : Nat) (x1 : Int32) (x2 : Int32) (x3 : Int32) (u : PS) (K : PS → Prop) (k : p_F_replaceWithinWords x0 x1 x2 x3 u K) : ∃ (rv : Option Value) (u1 : PS), (kV K) rv u1 ∧ XMet l Z i_F_replaceWithinWords [.ref x0, .int x1, .int x2, .int x3] u rv u1 := by
  refine x_met (by decide) rfl (Nat.le_of_ble_eq_true rfl) ?_
  show XN l Z i_F_replaceWithinWords u (kV K) u 0 [(0, .ref x0), (1, .int x1), (2, .int x2), (3, .int x3)] []
  unfold p_F_replaceWithinWords at k
  obtain ⟨z_24, h1, k⟩ := k
  obtain ⟨z_25, h2, k⟩ := k
  obtain ⟨z_26, h3, k⟩ := k
  obtain ⟨z_27, h4, k⟩ := k
  obtain ⟨z_28, h5, k⟩ := k
  obtain ⟨h7, k⟩ := k
  obtain ⟨_, u_29, ⟨r_30, rfl, k⟩, hM6⟩ := c_F_keptWords l Z x0 x1 u _ k
  obtain ⟨h9, k⟩ := k
  obtain ⟨_, u_31, ⟨r_32, rfl, k⟩, hM8⟩ := c_F_keptWords l Z x0 x3 u_29 _ k
  obtain ⟨_, u_33, ⟨r_34, rfl, k⟩, hM10⟩ := c_F_leftOut l Z (r_30 ||| r_32) u_31 _ k
  obtain ⟨h11, k⟩ := k
  obtain ⟨y12, ey12⟩ : ∃ y9 : Int64, y9 = (tab_ONES x2.toNatClampNeg) := ⟨_, rfl⟩
  have k := k y12 ey12
  obtain ⟨y13, ey13⟩ : ∃ y9 : Int32, y9 = ((1 : Int32) <<< (x2 &&& 31)) := ⟨_, rfl⟩
  have k := k y13 ey13
  obtain ⟨n14, k⟩ := k
  have hx16 : ∀ (v15 : PS), (K v15) → XN l Z i_F_replaceWithinWords u (kV K) v15 157 [] [] := by
    intro v15 k
    have hle_v15 : x_le v15 v15 := x_le.rf v15
    refine ⟨none, v15, ⟨rfl, k⟩, hle_v15, ?_⟩
    intro p e s m args below meth c A H locs ls F hw hl
    obtain ⟨⟨hx, hb, hml, hown, hts⟩, hr, hlocks, hmn⟩ := id F
    exact xr_vret F rfl hw d_F_replaceWithinWords_157
  obtain ⟨rv, v9, hK, hle_u_33, w9⟩ := t_F_replaceWithinWords_L61 l Z u z_25 z_27 z_28 r_30 r_32 r_34 y12 y13 hx16 n14 (0 : Int32) u_33 k
  have hle_u_31 : x_le u_31 v9 := (hM10.1).tr hle_u_33
  have hle_u_29 : x_le u_29 v9 := (hM8.1).tr hle_u_31
  have hle_u : x_le u v9 := (hM6.1).tr hle_u_29
  refine ⟨rv, v9, hK, hle_u, ?_⟩
  intro p e s m args below meth c A H locs ls F hw hl
  obtain ⟨⟨hx, hb, hml, hown, hts⟩, hr, hlocks, hmn⟩ := id F
  refine lv_aload_n hx hb d_F_replaceWithinWords_0 rfl (lv_at hl 0 rfl) ?_
  refine xr_get hx hb hts (xmu uws_F) hown hw h1 rfl (by decide) (hts _ (xm w_34)) (fun _ h9 => h9) d_F_replaceWithinWords_1 ?_
  refine lv_iload_n hx hb d_F_replaceWithinWords_4 rfl (lv_at hl 1 rfl) ?_
  refine xr_aald hx hb hw rfl h2 d_F_replaceWithinWords_5 ?_
  refine lv_astore (lv' := [(4, .ref z_25), (0, .ref x0), (1, .int x1), (2, .int x2), (3, .int x3)]) hx hb d_F_replaceWithinWords_6 hl (by decide) rfl (fun ls hl => ?_)
  refine lv_aload_n hx hb d_F_replaceWithinWords_8 rfl (lv_at hl 1 rfl) ?_
  refine xr_get hx hb hts (xmu uws_F) hown hw h3 rfl (by decide) (hts _ (xm w_34)) (fun _ h9 => h9) d_F_replaceWithinWords_9 ?_
  refine lv_iload_n hx hb d_F_replaceWithinWords_12 rfl (lv_at hl 4 rfl) ?_
  refine xr_aald hx hb hw rfl h4 d_F_replaceWithinWords_13 ?_
  refine lv_astore (lv' := [(5, .ref z_27), (4, .ref z_25), (0, .ref x0), (1, .int x1), (2, .int x2), (3, .int x3)]) hx hb d_F_replaceWithinWords_14 hl (by decide) rfl (fun ls hl => ?_)
  refine lv_aload_n hx hb d_F_replaceWithinWords_16 rfl (lv_at hl 2 rfl) ?_
  refine xr_get hx hb hts (xmu uws_F) hown hw h5 rfl (by decide) (hts _ (xm w_38)) (fun _ h9 => h9) d_F_replaceWithinWords_17 ?_
  refine lv_astore (lv' := [(6, .ref z_28), (5, .ref z_27), (4, .ref z_25), (0, .ref x0), (1, .int x1), (2, .int x2), (3, .int x3)]) hx hb d_F_replaceWithinWords_20 hl (by decide) rfl (fun ls hl => ?_)
  refine lv_aload_n hx hb d_F_replaceWithinWords_22 rfl (lv_at hl 3 rfl) ?_
  refine lv_iload_n hx hb d_F_replaceWithinWords_23 rfl (lv_at hl 4 rfl) ?_
  refine xr_cV (As := [.int x1]) (rest := []) ⟨hx, hb, hml, hown, hts⟩ hw hM6 hle_u_29 (fun _ _ => ⟨callB_of 1 hts (xgood w_264) rfl rfl rfl (hts _ (xm w_2)) (hts _ (xm w_261)) ⟨by decide, by decide, by decide +kernel⟩ ⟨Nat.le_of_ble_eq_true rfl, Nat.le_of_ble_eq_true rfl⟩, (hts _ (xm w_263)), (hts _ (xm wp_1))⟩) (qc := (R_F, F_F, 5)) rfl rfl h7 rfl hl.1 rfl (Nat.le_of_ble_eq_true rfl) d_F_replaceWithinWords_24 (fun H locs hw => ?_)
  refine W.eq (g2 := F0 m 27 ls [.int r_30]) rfl ?_
  refine lv_istore (lv' := [(7, .int r_30), (6, .ref z_28), (5, .ref z_27), (4, .ref z_25), (0, .ref x0), (1, .int x1), (2, .int x2), (3, .int x3)]) hx hb d_F_replaceWithinWords_27 hl (by decide) rfl (fun ls hl => ?_)
  refine lv_aload_n hx hb d_F_replaceWithinWords_29 rfl (lv_at hl 4 rfl) ?_
  refine lv_iload_n hx hb d_F_replaceWithinWords_30 rfl (lv_at hl 7 rfl) ?_
  refine xr_cV (As := [.int x3]) (rest := []) ⟨hx, hb, hml, hown, hts⟩ hw hM8 hle_u_31 (fun _ _ => ⟨callB_of 1 hts (xgood w_264) rfl rfl rfl (hts _ (xm w_2)) (hts _ (xm w_261)) ⟨by decide, by decide, by decide +kernel⟩ ⟨Nat.le_of_ble_eq_true rfl, Nat.le_of_ble_eq_true rfl⟩, (hts _ (xm w_263)), (hts _ (xm wp_1))⟩) (qc := (R_F, F_F, 5)) rfl rfl h9 rfl hl.1 rfl (Nat.le_of_ble_eq_true rfl) d_F_replaceWithinWords_31 (fun H locs hw => ?_)
  refine W.eq (g2 := F0 m 34 ls [.int r_32]) rfl ?_
  refine lv_istore (lv' := [(8, .int r_32), (7, .int r_30), (6, .ref z_28), (5, .ref z_27), (4, .ref z_25), (0, .ref x0), (1, .int x1), (2, .int x2), (3, .int x3)]) hx hb d_F_replaceWithinWords_34 hl (by decide) rfl (fun ls hl => ?_)
  refine lv_iload hx hb d_F_replaceWithinWords_36 (lv_at hl 1 rfl) ?_
  refine lv_iload hx hb d_F_replaceWithinWords_38 (lv_at hl 0 rfl) ?_
  refine lv_ior hx hb d_F_replaceWithinWords_40 ?_
  refine xr_cS (As := [.int (r_30 ||| r_32)]) (rest := []) ⟨hx, hb, hml, hown, hts⟩ hw hM10 hle_u_33 (fun _ _ => ⟨callB_of 1 hts (xgood w_267) rfl rfl rfl (hts _ (xm w_2)) (hts _ (xm w_265)) ⟨by decide, by decide, by decide +kernel⟩ ⟨Nat.le_of_ble_eq_true rfl, Nat.le_of_ble_eq_true rfl⟩, (hts _ (xm w_266))⟩) rfl hl.1 rfl (Nat.le_of_ble_eq_true rfl) d_F_replaceWithinWords_41 (fun H locs hw => ?_)
  refine W.eq (g2 := F0 m 44 ls [.int r_34]) rfl ?_
  refine lv_istore (lv' := [(9, .int r_34), (8, .int r_32), (7, .int r_30), (6, .ref z_28), (5, .ref z_27), (4, .ref z_25), (0, .ref x0), (1, .int x1), (2, .int x2), (3, .int x3)]) hx hb d_F_replaceWithinWords_44 hl (by decide) rfl (fun ls hl => ?_)
  refine va_gets hx hb (XG.z_ONES hw.2.2.2.2.2.1) hw.2.2.2.1 hown (hts _ (xm w_271)) (fun _ h9 => h9) d_F_replaceWithinWords_46 ?_
  refine lv_iload_n hx hb d_F_replaceWithinWords_49 rfl (lv_at hl 8 rfl) ?_
  refine va_tl hx hb (XG.t_ONES hw.2.2.2.2.2.1) hw.2.2.2.1 h11 rfl d_F_replaceWithinWords_50 ?_
  refine lv_lstore (lv' := [(10, .long y12), (9, .int r_34), (8, .int r_32), (7, .int r_30), (6, .ref z_28), (5, .ref z_27), (4, .ref z_25), (0, .ref x0), (1, .int x1), (2, .int x2), (3, .int x3)]) hx hb d_F_replaceWithinWords_51 hl (by decide) (by subst ey12; rfl) (fun ls hl => ?_)
  refine lv_iconst (v := 1) hx hb d_F_replaceWithinWords_53 (by decide) ?_
  refine lv_iload_n hx hb d_F_replaceWithinWords_54 rfl (lv_at hl 9 rfl) ?_
  refine lv_ishl hx hb d_F_replaceWithinWords_55 ?_
  refine lv_istore (lv' := [(12, .int y13), (10, .long y12), (9, .int r_34), (8, .int r_32), (7, .int r_30), (6, .ref z_28), (5, .ref z_27), (4, .ref z_25), (0, .ref x0), (1, .int x1), (2, .int x2), (3, .int x3)]) hx hb d_F_replaceWithinWords_56 hl (by decide) (by subst ey13; rfl) (fun ls hl => ?_)
  refine lv_iconst (v := 0) hx hb d_F_replaceWithinWords_58 (by decide) ?_
  refine lv_istore (lv' := [(13, .int 0), (12, .int y13), (10, .long y12), (9, .int r_34), (8, .int r_32), (7, .int r_30), (6, .ref z_28), (5, .ref z_27), (4, .ref z_25), (0, .ref x0), (1, .int x1), (2, .int x2), (3, .int x3)]) hx hb d_F_replaceWithinWords_59 hl (by decide) rfl (fun ls hl => ?_)
  exact w9 p e s m args below meth c A H locs ls F hw (lv_sub hl [8, 7, 6, 5, 4, 3, 2, 1, 0] rfl)
set_option maxRecDepth 100000 in
set_option maxHeartbeats 4000000 in
theorem t_F_replaceWords_L53 (l : Launch) (Z : XZ) (u0 : PS) {Kv : Option Value → PS → Prop} {E121 : PS → Prop} (x2 : Int32) (x5 : Nat) (x6 : Nat) (x7 : Nat) (x8 : Int32) (x9 : Int32) (x10 : Int32) (hE121 : ∀ (v : PS), E121 v → XN l Z i_F_replaceWords u0 Kv v 121 [] []) : ∀ (n : Nat) (x11 : Int32) (u : PS), p_F_replaceWords_L53 x2 x5 x6 x7 x8 x9 x10 E121 n x11 u → XN l Z i_F_replaceWords u0 Kv u 53 [(2, .int x2), (5, .ref x5), (6, .ref x6), (7, .ref x7), (8, .int x8), (9, .int x9), (10, .int x10), (11, .int x11)] [] := by
  intro n
  induction n with
  | zero => intro x11 u k; exact False.elim k
  | succ n ih =>
    intro x11 u k
    rw [p_F_replaceWords_L53] at k
    by_cases hc1 : 16 ≤ x11
    · have k := k.1 hc1
      obtain ⟨rv, v9, hK, hle_u, w9⟩ := hE121 u k
      refine ⟨rv, v9, hK, hle_u, ?_⟩
      intro p e s m args below meth c A H locs ls F hw hl
      obtain ⟨⟨hx, hb, hml, hown, hts⟩, hr, hlocks, hmn⟩ := id F
      refine lv_iload hx hb d_F_replaceWords_53 (lv_at hl 7 rfl) ?_
      refine lv_bipush (v := 16) hx hb d_F_replaceWords_55 (by decide) ?_
      refine lv_icmp_ge (tgt := 121) hx hb d_F_replaceWords_57 (by decide) (fun _ => ?_) (fun c9 => absurd hc1 c9)
      exact w9 p e s m args below meth c A H locs ls F hw (lv_sub hl [] rfl)
    · have k := k.2 hc1
      obtain ⟨z_31, h2, k⟩ := k
      obtain ⟨z_32, h3, k⟩ := k
      obtain ⟨z_33, h4, k⟩ := k
      obtain ⟨u_34, h5, k⟩ := k
      obtain ⟨y6, ey6⟩ : ∃ y9 : Int32, y9 = (((x11 ||| x10) + (1 : Int32)) &&& (x10 ^^^ (-1 : Int32))) := ⟨_, rfl⟩
      have k := k y6 ey6
      obtain ⟨rv, v9, hK, hle_u_34, w9⟩ := ih y6 u_34 k
      have hle_u : x_le u v9 := (h5.le).tr hle_u_34
      refine ⟨rv, v9, hK, hle_u, ?_⟩
      intro p e s m args below meth c A H locs ls F hw hl
      obtain ⟨⟨hx, hb, hml, hown, hts⟩, hr, hlocks, hmn⟩ := id F
      refine lv_iload hx hb d_F_replaceWords_53 (lv_at hl 7 rfl) ?_
      refine lv_bipush (v := 16) hx hb d_F_replaceWords_55 (by decide) ?_
      refine lv_icmp_ge (tgt := 121) hx hb d_F_replaceWords_57 (by decide) (fun c9 => absurd c9 hc1) (fun _ => ?_)
      refine lv_aload hx hb d_F_replaceWords_60 (lv_at hl 2 rfl) ?_
      refine lv_iload hx hb d_F_replaceWords_62 (lv_at hl 7 rfl) ?_
      refine lv_iload hx hb d_F_replaceWords_64 (lv_at hl 5 rfl) ?_
      refine lv_iand hx hb d_F_replaceWords_66 ?_
      refine xr_lald hx hb hw h2 d_F_replaceWords_67 ?_
      refine lv_lstore (lv' := [(12, .long z_31), (2, .int x2), (5, .ref x5), (6, .ref x6), (7, .ref x7), (8, .int x8), (9, .int x9), (10, .int x10), (11, .int x11)]) hx hb d_F_replaceWords_68 hl (by decide) rfl (fun ls hl => ?_)
      refine lv_aload hx hb d_F_replaceWords_70 (lv_at hl 4 rfl) ?_
      refine lv_iload hx hb d_F_replaceWords_72 (lv_at hl 8 rfl) ?_
      refine lv_lload hx hb d_F_replaceWords_74 (lv_at hl 0 rfl) ?_
      refine lv_aload hx hb d_F_replaceWords_76 (lv_at hl 2 rfl) ?_
      refine lv_iload hx hb d_F_replaceWords_78 (lv_at hl 8 rfl) ?_
      refine lv_iload hx hb d_F_replaceWords_80 (lv_at hl 5 rfl) ?_
      refine lv_iand hx hb d_F_replaceWords_82 ?_
      refine lv_iload_n hx hb d_F_replaceWords_83 rfl (lv_at hl 1 rfl) ?_
      refine lv_ior hx hb d_F_replaceWords_84 ?_
      refine xr_lald hx hb hw h3 d_F_replaceWords_85 ?_
      refine lv_land hx hb d_F_replaceWords_86 ?_
      refine lv_lload hx hb d_F_replaceWords_87 (lv_at hl 0 rfl) ?_
      refine lv_ldc2 (v := (-1)) hx hb hown (hts _ (xm w_273)) d_F_replaceWords_89 ?_
      refine lv_lxor hx hb d_F_replaceWords_92 ?_
      refine lv_aload hx hb d_F_replaceWords_93 (lv_at hl 2 rfl) ?_
      refine lv_iload hx hb d_F_replaceWords_95 (lv_at hl 8 rfl) ?_
      refine lv_iload hx hb d_F_replaceWords_97 (lv_at hl 5 rfl) ?_
      refine lv_iand hx hb d_F_replaceWords_99 ?_
      refine xr_lald hx hb hw h4 d_F_replaceWords_100 ?_
      refine lv_land hx hb d_F_replaceWords_101 ?_
      refine lv_lor hx hb d_F_replaceWords_102 ?_
      refine xr_last hx hb hw h5 d_F_replaceWords_103 (fun H locs hw => ?_)
      refine lv_iload hx hb d_F_replaceWords_104 (lv_at hl 8 rfl) ?_
      refine lv_iload hx hb d_F_replaceWords_106 (lv_at hl 7 rfl) ?_
      refine lv_ior hx hb d_F_replaceWords_108 ?_
      refine lv_iconst (v := 1) hx hb d_F_replaceWords_109 (by decide) ?_
      refine lv_iadd hx hb d_F_replaceWords_110 ?_
      refine lv_iload hx hb d_F_replaceWords_111 (lv_at hl 7 rfl) ?_
      refine lv_iconst (v := (-1)) hx hb d_F_replaceWords_113 (by decide) ?_
      refine lv_ixor hx hb d_F_replaceWords_114 ?_
      refine lv_iand hx hb d_F_replaceWords_115 ?_
      refine lv_istore (lv' := [(11, .int y6), (12, .long z_31), (2, .int x2), (5, .ref x5), (6, .ref x6), (7, .ref x7), (8, .int x8), (9, .int x9), (10, .int x10)]) hx hb d_F_replaceWords_116 hl (by decide) (by subst ey6; rfl) (fun ls hl => ?_)
      refine lv_goto (tgt := 53) hx hb d_F_replaceWords_118 (by decide) ?_
      exact w9 p e s m args below meth c A H locs ls F hw (lv_sub hl [2, 3, 4, 5, 6, 7, 8, 0] rfl)
set_option maxRecDepth 100000 in
set_option maxHeartbeats 4000000 in
theorem c_F_replaceWords (l : Launch) (Z : XZ) (x0 : Nat) (x1 : Int32) (x2 : Int32) (x3 : Int32) (x4 : Int32) (u : PS) (K : PS → Prop) (k : p_F_replaceWords x0 x1 x2 x3 x4 u K) : ∃ (rv : Option Value) (u1 : PS), (kV K) rv u1 ∧ XMet l Z i_F_replaceWords [.ref x0, .int x1, .int x2, .int x3, .int x4] u rv u1 := by
  refine x_met (by decide) rfl (Nat.le_of_ble_eq_true rfl) ?_
  show XN l Z i_F_replaceWords u (kV K) u 0 [(0, .ref x0), (1, .int x1), (2, .int x2), (3, .int x3), (4, .int x4)] []
  unfold p_F_replaceWords at k
  obtain ⟨z_20, h1, k⟩ := k
  obtain ⟨z_21, h2, k⟩ := k
  obtain ⟨z_22, h3, k⟩ := k
  obtain ⟨z_23, h4, k⟩ := k
  obtain ⟨z_24, h5, k⟩ := k
  obtain ⟨h7, k⟩ := k
  obtain ⟨_, u_25, ⟨r_26, rfl, k⟩, hM6⟩ := c_F_keptWords l Z x0 x1 u _ k
  obtain ⟨y8, ey8⟩ : ∃ y9 : Int32, y9 = (r_26 &&& (x2 ^^^ (-1 : Int32))) := ⟨_, rfl⟩
  have k := k y8 ey8
  obtain ⟨h10, k⟩ := k
  obtain ⟨_, u_27, ⟨r_28, rfl, k⟩, hM9⟩ := c_F_keptWords l Z x0 x3 u_25 _ k
  obtain ⟨_, u_29, ⟨r_30, rfl, k⟩, hM11⟩ := c_F_leftOut l Z (x4 >>> ((6 : Int32) &&& 31)) u_27 _ k
  obtain ⟨n12, k⟩ := k
  have hx14 : ∀ (v13 : PS), (K v13) → XN l Z i_F_replaceWords u (kV K) v13 121 [] [] := by
    intro v13 k
    have hle_v13 : x_le v13 v13 := x_le.rf v13
    refine ⟨none, v13, ⟨rfl, k⟩, hle_v13, ?_⟩
    intro p e s m args below meth c A H locs ls F hw hl
    obtain ⟨⟨hx, hb, hml, hown, hts⟩, hr, hlocks, hmn⟩ := id F
    exact xr_vret F rfl hw d_F_replaceWords_121
  obtain ⟨rv, v9, hK, hle_u_29, w9⟩ := t_F_replaceWords_L53 l Z u x2 z_21 z_23 z_24 y8 r_28 r_30 hx14 n12 (0 : Int32) u_29 k
  have hle_u_27 : x_le u_27 v9 := (hM11.1).tr hle_u_29
  have hle_u_25 : x_le u_25 v9 := (hM9.1).tr hle_u_27
  have hle_u : x_le u v9 := (hM6.1).tr hle_u_25
  refine ⟨rv, v9, hK, hle_u, ?_⟩
  intro p e s m args below meth c A H locs ls F hw hl
  obtain ⟨⟨hx, hb, hml, hown, hts⟩, hr, hlocks, hmn⟩ := id F
  refine lv_aload_n hx hb d_F_replaceWords_0 rfl (lv_at hl 0 rfl) ?_
  refine xr_get hx hb hts (xmu uws_F) hown hw h1 rfl (by decide) (hts _ (xm w_34)) (fun _ h9 => h9) d_F_replaceWords_1 ?_
  refine lv_iload_n hx hb d_F_replaceWords_4 rfl (lv_at hl 1 rfl) ?_
  refine xr_aald hx hb hw rfl h2 d_F_replaceWords_5 ?_
  refine lv_astore (lv' := [(5, .ref z_21), (0, .ref x0), (1, .int x1), (2, .int x2), (3, .int x3), (4, .int x4)]) hx hb d_F_replaceWords_6 hl (by decide) rfl (fun ls hl => ?_)
  refine lv_aload_n hx hb d_F_replaceWords_8 rfl (lv_at hl 1 rfl) ?_
  refine xr_get hx hb hts (xmu uws_F) hown hw h3 rfl (by decide) (hts _ (xm w_34)) (fun _ h9 => h9) d_F_replaceWords_9 ?_
  refine lv_iload_n hx hb d_F_replaceWords_12 rfl (lv_at hl 4 rfl) ?_
  refine xr_aald hx hb hw rfl h4 d_F_replaceWords_13 ?_
  refine lv_astore (lv' := [(6, .ref z_23), (5, .ref z_21), (0, .ref x0), (1, .int x1), (2, .int x2), (3, .int x3), (4, .int x4)]) hx hb d_F_replaceWords_14 hl (by decide) rfl (fun ls hl => ?_)
  refine lv_aload_n hx hb d_F_replaceWords_16 rfl (lv_at hl 2 rfl) ?_
  refine xr_get hx hb hts (xmu uws_F) hown hw h5 rfl (by decide) (hts _ (xm w_38)) (fun _ h9 => h9) d_F_replaceWords_17 ?_
  refine lv_astore (lv' := [(7, .ref z_24), (6, .ref z_23), (5, .ref z_21), (0, .ref x0), (1, .int x1), (2, .int x2), (3, .int x3), (4, .int x4)]) hx hb d_F_replaceWords_20 hl (by decide) rfl (fun ls hl => ?_)
  refine lv_aload_n hx hb d_F_replaceWords_22 rfl (lv_at hl 3 rfl) ?_
  refine lv_iload_n hx hb d_F_replaceWords_23 rfl (lv_at hl 4 rfl) ?_
  refine xr_cV (As := [.int x1]) (rest := []) ⟨hx, hb, hml, hown, hts⟩ hw hM6 hle_u_25 (fun _ _ => ⟨callB_of 1 hts (xgood w_264) rfl rfl rfl (hts _ (xm w_2)) (hts _ (xm w_261)) ⟨by decide, by decide, by decide +kernel⟩ ⟨Nat.le_of_ble_eq_true rfl, Nat.le_of_ble_eq_true rfl⟩, (hts _ (xm w_263)), (hts _ (xm wp_1))⟩) (qc := (R_F, F_F, 5)) rfl rfl h7 rfl hl.1 rfl (Nat.le_of_ble_eq_true rfl) d_F_replaceWords_24 (fun H locs hw => ?_)
  refine W.eq (g2 := F0 m 27 ls [.int r_26]) rfl ?_
  refine lv_iload_n hx hb d_F_replaceWords_27 rfl (lv_at hl 5 rfl) ?_
  refine lv_iconst (v := (-1)) hx hb d_F_replaceWords_28 (by decide) ?_
  refine lv_ixor hx hb d_F_replaceWords_29 ?_
  refine lv_iand hx hb d_F_replaceWords_30 ?_
  refine lv_istore (lv' := [(8, .int y8), (7, .ref z_24), (6, .ref z_23), (5, .ref z_21), (0, .ref x0), (1, .int x1), (2, .int x2), (3, .int x3), (4, .int x4)]) hx hb d_F_replaceWords_31 hl (by decide) (by subst ey8; rfl) (fun ls hl => ?_)
  refine lv_aload_n hx hb d_F_replaceWords_33 rfl (lv_at hl 4 rfl) ?_
  refine lv_iload_n hx hb d_F_replaceWords_34 rfl (lv_at hl 7 rfl) ?_
  refine xr_cV (As := [.int x3]) (rest := []) ⟨hx, hb, hml, hown, hts⟩ hw hM9 hle_u_27 (fun _ _ => ⟨callB_of 1 hts (xgood w_264) rfl rfl rfl (hts _ (xm w_2)) (hts _ (xm w_261)) ⟨by decide, by decide, by decide +kernel⟩ ⟨Nat.le_of_ble_eq_true rfl, Nat.le_of_ble_eq_true rfl⟩, (hts _ (xm w_263)), (hts _ (xm wp_1))⟩) (qc := (R_F, F_F, 5)) rfl rfl h10 rfl hl.1 rfl (Nat.le_of_ble_eq_true rfl) d_F_replaceWords_35 (fun H locs hw => ?_)
  refine W.eq (g2 := F0 m 38 ls [.int r_28]) rfl ?_
  refine lv_istore (lv' := [(9, .int r_28), (8, .int y8), (7, .ref z_24), (6, .ref z_23), (5, .ref z_21), (0, .ref x0), (1, .int x1), (2, .int x2), (3, .int x3), (4, .int x4)]) hx hb d_F_replaceWords_38 hl (by decide) rfl (fun ls hl => ?_)
  refine lv_iload hx hb d_F_replaceWords_40 (lv_at hl 9 rfl) ?_
  refine lv_bipush (v := 6) hx hb d_F_replaceWords_42 (by decide) ?_
  refine lv_ishr hx hb d_F_replaceWords_44 ?_
  refine xr_cS (As := [.int (x4 >>> ((6 : Int32) &&& 31))]) (rest := []) ⟨hx, hb, hml, hown, hts⟩ hw hM11 hle_u_29 (fun _ _ => ⟨callB_of 1 hts (xgood w_267) rfl rfl rfl (hts _ (xm w_2)) (hts _ (xm w_265)) ⟨by decide, by decide, by decide +kernel⟩ ⟨Nat.le_of_ble_eq_true rfl, Nat.le_of_ble_eq_true rfl⟩, (hts _ (xm w_266))⟩) rfl hl.1 rfl (Nat.le_of_ble_eq_true rfl) d_F_replaceWords_45 (fun H locs hw => ?_)
  refine W.eq (g2 := F0 m 48 ls [.int r_30]) rfl ?_
  refine lv_istore (lv' := [(10, .int r_30), (9, .int r_28), (8, .int y8), (7, .ref z_24), (6, .ref z_23), (5, .ref z_21), (0, .ref x0), (1, .int x1), (2, .int x2), (3, .int x3), (4, .int x4)]) hx hb d_F_replaceWords_48 hl (by decide) rfl (fun ls hl => ?_)
  refine lv_iconst (v := 0) hx hb d_F_replaceWords_50 (by decide) ?_
  refine lv_istore (lv' := [(11, .int 0), (10, .int r_30), (9, .int r_28), (8, .int y8), (7, .ref z_24), (6, .ref z_23), (5, .ref z_21), (0, .ref x0), (1, .int x1), (2, .int x2), (3, .int x3), (4, .int x4)]) hx hb d_F_replaceWords_51 hl (by decide) rfl (fun ls hl => ?_)
  exact w9 p e s m args below meth c A H locs ls F hw (lv_sub hl [9, 6, 5, 4, 3, 2, 1, 0] rfl)
set_option maxRecDepth 100000 in
set_option maxHeartbeats 4000000 in
theorem t_F_replace_J76 (l : Launch) (Z : XZ) (u0 : PS) {K : PS → Prop} (x0 : Nat) (x1 : Int32) (x5 : Int32) (u : PS) (k : (p_F_replace_J76 K x0 x1 x5 u)) : XN l Z i_F_replace u0 (kV K) u 76 [(0, .ref x0), (1, .int x1), (5, .int x5)] [] := by
  unfold p_F_replace_J76 at k
  obtain ⟨h2, k⟩ := k
  obtain ⟨_, u_20, ⟨rfl, k⟩, hM1⟩ := c_F_putSpare l Z x0 x1 x5 u _ k
  have hle_u_20 : x_le u_20 u_20 := x_le.rf u_20
  have hle_u : x_le u u_20 := (hM1.1).tr hle_u_20
  refine ⟨none, u_20, ⟨rfl, k⟩, hle_u, ?_⟩
  intro p e s m args below meth c A H locs ls F hw hl
  obtain ⟨⟨hx, hb, hml, hown, hts⟩, hr, hlocks, hmn⟩ := id F
  refine lv_aload_n hx hb d_F_replace_76 rfl (lv_at hl 0 rfl) ?_
  refine lv_iload_n hx hb d_F_replace_77 rfl (lv_at hl 1 rfl) ?_
  refine lv_iload hx hb d_F_replace_78 (lv_at hl 2 rfl) ?_
  refine xr_cV (As := [.int x1, .int x5]) (rest := []) ⟨hx, hb, hml, hown, hts⟩ hw hM1 hle_u_20 (fun _ _ => ⟨callB_of 2 hts (xgood w_649) rfl rfl rfl (hts _ (xm w_2)) (hts _ (xm w_646)) ⟨by decide, by decide, by decide +kernel⟩ ⟨Nat.le_of_ble_eq_true rfl, Nat.le_of_ble_eq_true rfl⟩, (hts _ (xm w_648)), (hts _ (xm wp_31))⟩) (qc := (R_F, F_F, 5)) rfl rfl h2 rfl hl.1 rfl (Nat.le_of_ble_eq_true rfl) d_F_replace_80 (fun H locs hw => ?_)
  refine W.eq (g2 := F0 m 83 ls []) rfl ?_
  exact xr_vret F rfl hw d_F_replace_83
set_option maxRecDepth 100000 in
set_option maxHeartbeats 4000000 in
theorem c_F_replace (l : Launch) (Z : XZ) (x0 : Nat) (x1 : Int32) (x2 : Int32) (x3 : Int32) (x4 : Int32) (u : PS) (K : PS → Prop) (k : p_F_replace x0 x1 x2 x3 x4 u K) : ∃ (rv : Option Value) (u1 : PS), (kV K) rv u1 ∧ XMet l Z i_F_replace [.ref x0, .int x1, .int x2, .int x3, .int x4] u rv u1 := by
  refine x_met (by decide) rfl (Nat.le_of_ble_eq_true rfl) ?_
  show XN l Z i_F_replace u (kV K) u 0 [(0, .ref x0), (1, .int x1), (2, .int x2), (3, .int x3), (4, .int x4)] []
  unfold p_F_replace at k
  obtain ⟨z_12, h1, k⟩ := k
  obtain ⟨z_13, h2, k⟩ := k
  by_cases hc3 : ((z_13 >>> (x3 &&& 31)) &&& (1 : Int32)) = 0
  · have k := k.2 hc3
    obtain ⟨h5, k⟩ := k
    obtain ⟨_, u_14, ⟨rfl, k⟩, hM4⟩ := c_F_restrict l Z x0 x1 x2 x3 (0 : Int32) u _ k
    have hle_u_14 : x_le u_14 u_14 := x_le.rf u_14
    have hle_u : x_le u u_14 := (hM4.1).tr hle_u_14
    refine ⟨none, u_14, ⟨rfl, k⟩, hle_u, ?_⟩
    intro p e s m args below meth c A H locs ls F hw hl
    obtain ⟨⟨hx, hb, hml, hown, hts⟩, hr, hlocks, hmn⟩ := id F
    refine lv_aload_n hx hb d_F_replace_0 rfl (lv_at hl 0 rfl) ?_
    refine xr_get hx hb hts (xmu uws_F) hown hw h1 rfl (by decide) (hts _ (xm w_35)) (fun _ h9 => h9) d_F_replace_1 ?_
    refine lv_iload_n hx hb d_F_replace_4 rfl (lv_at hl 2 rfl) ?_
    refine xr_iald hx hb hw h2 d_F_replace_5 ?_
    refine lv_iload_n hx hb d_F_replace_6 rfl (lv_at hl 3 rfl) ?_
    refine lv_ishr hx hb d_F_replace_7 ?_
    refine lv_iconst (v := 1) hx hb d_F_replace_8 (by decide) ?_
    refine lv_iand hx hb d_F_replace_9 ?_
    refine lv_if_ne (tgt := 22) hx hb d_F_replace_10 (by decide) (fun c9 => absurd hc3 c9) (fun _ => ?_)
    refine lv_aload_n hx hb d_F_replace_13 rfl (lv_at hl 0 rfl) ?_
    refine lv_iload_n hx hb d_F_replace_14 rfl (lv_at hl 1 rfl) ?_
    refine lv_iload_n hx hb d_F_replace_15 rfl (lv_at hl 2 rfl) ?_
    refine lv_iload_n hx hb d_F_replace_16 rfl (lv_at hl 3 rfl) ?_
    refine lv_iconst (v := 0) hx hb d_F_replace_17 (by decide) ?_
    refine xr_cV (As := [.int x1, .int x2, .int x3, .int 0]) (rest := []) ⟨hx, hb, hml, hown, hts⟩ hw hM4 hle_u_14 (fun _ _ => ⟨callB_of 4 hts (xgood w_671) rfl rfl rfl (hts _ (xm w_2)) (hts _ (xm w_691)) ⟨by decide, by decide, by decide +kernel⟩ ⟨Nat.le_of_ble_eq_true rfl, Nat.le_of_ble_eq_true rfl⟩, (hts _ (xm w_669)), (hts _ (xm w_670))⟩) (qc := (R_F, F_F, 5)) rfl rfl h5 rfl hl.1 rfl (Nat.le_of_ble_eq_true rfl) d_F_replace_18 (fun H locs hw => ?_)
    refine W.eq (g2 := F0 m 21 ls []) rfl ?_
    exact xr_vret F rfl hw d_F_replace_21
  · have k := k.1 hc3
    obtain ⟨z_15, h6, k⟩ := k
    obtain ⟨z_16, h7, k⟩ := k
    obtain ⟨z_17, h8, k⟩ := k
    obtain ⟨z_18, h9, k⟩ := k
    obtain ⟨y10, ey10⟩ : ∃ y9 : Int32, y9 = ((z_16 &&& (((1 : Int32) <<< (x3 &&& 31)) ^^^ (-1 : Int32))) ||| z_18) := ⟨_, rfl⟩
    have k := k y10 ey10
    by_cases hc11 : 6 ≤ x3
    · have k := k.1 hc11
      obtain ⟨h13, k⟩ := k
      obtain ⟨_, u_19, ⟨rfl, k⟩, hM12⟩ := c_F_replaceWords l Z x0 x2 ((1 : Int32) <<< ((x3 - (6 : Int32)) &&& 31)) x4 y10 u _ k
      obtain ⟨rv, v9, hK, hle_u_19, w9⟩ := t_F_replace_J76 l Z u x0 x1 y10 u_19 k
      have hle_u : x_le u v9 := (hM12.1).tr hle_u_19
      refine ⟨rv, v9, hK, hle_u, ?_⟩
      intro p e s m args below meth c A H locs ls F hw hl
      obtain ⟨⟨hx, hb, hml, hown, hts⟩, hr, hlocks, hmn⟩ := id F
      refine lv_aload_n hx hb d_F_replace_0 rfl (lv_at hl 0 rfl) ?_
      refine xr_get hx hb hts (xmu uws_F) hown hw h1 rfl (by decide) (hts _ (xm w_35)) (fun _ h9 => h9) d_F_replace_1 ?_
      refine lv_iload_n hx hb d_F_replace_4 rfl (lv_at hl 2 rfl) ?_
      refine xr_iald hx hb hw h2 d_F_replace_5 ?_
      refine lv_iload_n hx hb d_F_replace_6 rfl (lv_at hl 3 rfl) ?_
      refine lv_ishr hx hb d_F_replace_7 ?_
      refine lv_iconst (v := 1) hx hb d_F_replace_8 (by decide) ?_
      refine lv_iand hx hb d_F_replace_9 ?_
      refine lv_if_ne (tgt := 22) hx hb d_F_replace_10 (by decide) (fun _ => ?_) (fun c9 => absurd c9 hc3)
      refine lv_aload_n hx hb d_F_replace_22 rfl (lv_at hl 0 rfl) ?_
      refine xr_get hx hb hts (xmu uws_F) hown hw h6 rfl (by decide) (hts _ (xm w_35)) (fun _ h9 => h9) d_F_replace_23 ?_
      refine lv_iload_n hx hb d_F_replace_26 rfl (lv_at hl 2 rfl) ?_
      refine xr_iald hx hb hw h7 d_F_replace_27 ?_
      refine lv_iconst (v := 1) hx hb d_F_replace_28 (by decide) ?_
      refine lv_iload_n hx hb d_F_replace_29 rfl (lv_at hl 3 rfl) ?_
      refine lv_ishl hx hb d_F_replace_30 ?_
      refine lv_iconst (v := (-1)) hx hb d_F_replace_31 (by decide) ?_
      refine lv_ixor hx hb d_F_replace_32 ?_
      refine lv_iand hx hb d_F_replace_33 ?_
      refine lv_aload_n hx hb d_F_replace_34 rfl (lv_at hl 0 rfl) ?_
      refine xr_get hx hb hts (xmu uws_F) hown hw h8 rfl (by decide) (hts _ (xm w_35)) (fun _ h9 => h9) d_F_replace_35 ?_
      refine lv_iload hx hb d_F_replace_38 (lv_at hl 4 rfl) ?_
      refine xr_iald hx hb hw h9 d_F_replace_40 ?_
      refine lv_ior hx hb d_F_replace_41 ?_
      refine lv_istore (lv' := [(5, .int y10), (0, .ref x0), (1, .int x1), (2, .int x2), (3, .int x3), (4, .int x4)]) hx hb d_F_replace_42 hl (by decide) (by subst ey10; rfl) (fun ls hl => ?_)
      refine lv_iload_n hx hb d_F_replace_44 rfl (lv_at hl 4 rfl) ?_
      refine lv_bipush (v := 6) hx hb d_F_replace_45 (by decide) ?_
      refine lv_icmp_ge (tgt := 61) hx hb d_F_replace_47 (by decide) (fun _ => ?_) (fun c9 => absurd hc11 c9)
      refine lv_aload_n hx hb d_F_replace_61 rfl (lv_at hl 1 rfl) ?_
      refine lv_iload_n hx hb d_F_replace_62 rfl (lv_at hl 3 rfl) ?_
      refine lv_iconst (v := 1) hx hb d_F_replace_63 (by decide) ?_
      refine lv_iload_n hx hb d_F_replace_64 rfl (lv_at hl 4 rfl) ?_
      refine lv_bipush (v := 6) hx hb d_F_replace_65 (by decide) ?_
      refine lv_isub hx hb d_F_replace_67 ?_
      refine lv_ishl hx hb d_F_replace_68 ?_
      refine lv_iload hx hb d_F_replace_69 (lv_at hl 5 rfl) ?_
      refine lv_iload hx hb d_F_replace_71 (lv_at hl 0 rfl) ?_
      refine xr_cV (As := [.int x2, .int ((1 : Int32) <<< ((x3 - (6 : Int32)) &&& 31)), .int x4, .int y10]) (rest := []) ⟨hx, hb, hml, hown, hts⟩ hw hM12 hle_u_19 (fun _ _ => ⟨callB_of 4 hts (xgood w_699) rfl rfl rfl (hts _ (xm w_2)) (hts _ (xm w_696)) ⟨by decide, by decide, by decide +kernel⟩ ⟨Nat.le_of_ble_eq_true rfl, Nat.le_of_ble_eq_true rfl⟩, (hts _ (xm w_698)), (hts _ (xm wp_35))⟩) (qc := (R_F, F_F, 5)) rfl rfl h13 rfl hl.1 rfl (Nat.le_of_ble_eq_true rfl) d_F_replace_73 (fun H locs hw => ?_)
      refine W.eq (g2 := F0 m 76 ls []) rfl ?_
      exact w9 p e s m args below meth c A H locs ls F hw (lv_sub hl [1, 2, 0] rfl)
    · have k := k.2 hc11
      obtain ⟨h15, k⟩ := k
      obtain ⟨_, u_21, ⟨rfl, k⟩, hM14⟩ := c_F_replaceWithinWords l Z x0 x2 x3 x4 u _ k
      obtain ⟨rv, v9, hK, hle_u_21, w9⟩ := t_F_replace_J76 l Z u x0 x1 y10 u_21 k
      have hle_u : x_le u v9 := (hM14.1).tr hle_u_21
      refine ⟨rv, v9, hK, hle_u, ?_⟩
      intro p e s m args below meth c A H locs ls F hw hl
      obtain ⟨⟨hx, hb, hml, hown, hts⟩, hr, hlocks, hmn⟩ := id F
      refine lv_aload_n hx hb d_F_replace_0 rfl (lv_at hl 0 rfl) ?_
      refine xr_get hx hb hts (xmu uws_F) hown hw h1 rfl (by decide) (hts _ (xm w_35)) (fun _ h9 => h9) d_F_replace_1 ?_
      refine lv_iload_n hx hb d_F_replace_4 rfl (lv_at hl 2 rfl) ?_
      refine xr_iald hx hb hw h2 d_F_replace_5 ?_
      refine lv_iload_n hx hb d_F_replace_6 rfl (lv_at hl 3 rfl) ?_
      refine lv_ishr hx hb d_F_replace_7 ?_
      refine lv_iconst (v := 1) hx hb d_F_replace_8 (by decide) ?_
      refine lv_iand hx hb d_F_replace_9 ?_
      refine lv_if_ne (tgt := 22) hx hb d_F_replace_10 (by decide) (fun _ => ?_) (fun c9 => absurd c9 hc3)
      refine lv_aload_n hx hb d_F_replace_22 rfl (lv_at hl 0 rfl) ?_
      refine xr_get hx hb hts (xmu uws_F) hown hw h6 rfl (by decide) (hts _ (xm w_35)) (fun _ h9 => h9) d_F_replace_23 ?_
      refine lv_iload_n hx hb d_F_replace_26 rfl (lv_at hl 2 rfl) ?_
      refine xr_iald hx hb hw h7 d_F_replace_27 ?_
      refine lv_iconst (v := 1) hx hb d_F_replace_28 (by decide) ?_
      refine lv_iload_n hx hb d_F_replace_29 rfl (lv_at hl 3 rfl) ?_
      refine lv_ishl hx hb d_F_replace_30 ?_
      refine lv_iconst (v := (-1)) hx hb d_F_replace_31 (by decide) ?_
      refine lv_ixor hx hb d_F_replace_32 ?_
      refine lv_iand hx hb d_F_replace_33 ?_
      refine lv_aload_n hx hb d_F_replace_34 rfl (lv_at hl 0 rfl) ?_
      refine xr_get hx hb hts (xmu uws_F) hown hw h8 rfl (by decide) (hts _ (xm w_35)) (fun _ h9 => h9) d_F_replace_35 ?_
      refine lv_iload hx hb d_F_replace_38 (lv_at hl 4 rfl) ?_
      refine xr_iald hx hb hw h9 d_F_replace_40 ?_
      refine lv_ior hx hb d_F_replace_41 ?_
      refine lv_istore (lv' := [(5, .int y10), (0, .ref x0), (1, .int x1), (2, .int x2), (3, .int x3), (4, .int x4)]) hx hb d_F_replace_42 hl (by decide) (by subst ey10; rfl) (fun ls hl => ?_)
      refine lv_iload_n hx hb d_F_replace_44 rfl (lv_at hl 4 rfl) ?_
      refine lv_bipush (v := 6) hx hb d_F_replace_45 (by decide) ?_
      refine lv_icmp_ge (tgt := 61) hx hb d_F_replace_47 (by decide) (fun c9 => absurd c9 hc11) (fun _ => ?_)
      refine lv_aload_n hx hb d_F_replace_50 rfl (lv_at hl 1 rfl) ?_
      refine lv_iload_n hx hb d_F_replace_51 rfl (lv_at hl 3 rfl) ?_
      refine lv_iload_n hx hb d_F_replace_52 rfl (lv_at hl 4 rfl) ?_
      refine lv_iload hx hb d_F_replace_53 (lv_at hl 5 rfl) ?_
      refine xr_cV (As := [.int x2, .int x3, .int x4]) (rest := []) ⟨hx, hb, hml, hown, hts⟩ hw hM14 hle_u_21 (fun _ _ => ⟨callB_of 3 hts (xgood w_695) rfl rfl rfl (hts _ (xm w_2)) (hts _ (xm w_692)) ⟨by decide, by decide, by decide +kernel⟩ ⟨Nat.le_of_ble_eq_true rfl, Nat.le_of_ble_eq_true rfl⟩, (hts _ (xm w_694)), (hts _ (xm wp_34))⟩) (qc := (R_F, F_F, 5)) rfl rfl h15 rfl hl.1 rfl (Nat.le_of_ble_eq_true rfl) d_F_replace_55 (fun H locs hw => ?_)
      refine W.eq (g2 := F0 m 58 ls []) rfl ?_
      refine lv_goto (tgt := 76) hx hb d_F_replace_58 (by decide) ?_
      exact w9 p e s m args below meth c A H locs ls F hw (lv_sub hl [1, 2, 0] rfl)
set_option maxRecDepth 100000 in
set_option maxHeartbeats 4000000 in
theorem t_F_someWords_L43 (l : Launch) (Z : XZ) (u0 : PS) {Kv : Option Value → PS → Prop} {E99 : Int64 → PS → Prop} (x3 : Int32) (x5 : Int64) (x7 : Nat) (x8 : Nat) (x9 : Int32) (x10 : Int32) (x11 : Int32) (hE99 : ∀ (y12 : Int64) (v : PS), E99 y12 v → XN l Z i_F_someWords u0 Kv v 99 [(12, .long y12)] []) : ∀ (n : Nat) (x12 : Int64) (x14 : Int32) (u : PS), p_F_someWords_L43 x3 x5 x7 x8 x9 x10 x11 E99 n x12 x14 u → XN l Z i_F_someWords u0 Kv u 43 [(3, .int x3), (5, .long x5), (7, .ref x7), (8, .ref x8), (9, .int x9), (10, .int x10), (11, .int x11), (12, .long x12), (14, .int x14)] [] := by
  intro n
  induction n with
  | zero => intro x12 x14 u k; exact False.elim k
  | succ n ih =>
    intro x12 x14 u k
    rw [p_F_someWords_L43] at k
    by_cases hc1 : 16 ≤ x14
    · have k := k.1 hc1
      obtain ⟨rv, v9, hK, hle_u, w9⟩ := hE99 x12 u k
      refine ⟨rv, v9, hK, hle_u, ?_⟩
      intro p e s m args below meth c A H locs ls F hw hl
      obtain ⟨⟨hx, hb, hml, hown, hts⟩, hr, hlocks, hmn⟩ := id F
      refine lv_iload hx hb d_F_someWords_43 (lv_at hl 8 rfl) ?_
      refine lv_bipush (v := 16) hx hb d_F_someWords_45 (by decide) ?_
      refine lv_icmp_ge (tgt := 99) hx hb d_F_someWords_47 (by decide) (fun _ => ?_) (fun c9 => absurd hc1 c9)
      exact w9 p e s m args below meth c A H locs ls F hw (lv_sub hl [7] rfl)
    · have k := k.2 hc1
      obtain ⟨z_28, h2, k⟩ := k
      obtain ⟨z_29, h3, k⟩ := k
      obtain ⟨y4, ey4⟩ : ∃ y9 : Int64, y9 = (x12 ||| ((z_28 ^^^ x5) &&& (z_29 ^^^ x5))) := ⟨_, rfl⟩
      have k := k y4 ey4
      obtain ⟨y5, ey5⟩ : ∃ y9 : Int32, y9 = (((x14 ||| x11) + (1 : Int32)) &&& (x11 ^^^ (-1 : Int32))) := ⟨_, rfl⟩
      have k := k y5 ey5
      obtain ⟨rv, v9, hK, hle_u, w9⟩ := ih y4 y5 u k
      refine ⟨rv, v9, hK, hle_u, ?_⟩
      intro p e s m args below meth c A H locs ls F hw hl
      obtain ⟨⟨hx, hb, hml, hown, hts⟩, hr, hlocks, hmn⟩ := id F
      refine lv_iload hx hb d_F_someWords_43 (lv_at hl 8 rfl) ?_
      refine lv_bipush (v := 16) hx hb d_F_someWords_45 (by decide) ?_
      refine lv_icmp_ge (tgt := 99) hx hb d_F_someWords_47 (by decide) (fun c9 => absurd c9 hc1) (fun _ => ?_)
      refine lv_lload hx hb d_F_someWords_50 (lv_at hl 7 rfl) ?_
      refine lv_aload hx hb d_F_someWords_52 (lv_at hl 2 rfl) ?_
      refine lv_iload_n hx hb d_F_someWords_54 rfl (lv_at hl 0 rfl) ?_
      refine lv_iload hx hb d_F_someWords_55 (lv_at hl 8 rfl) ?_
      refine lv_ior hx hb d_F_someWords_57 ?_
      refine lv_iload hx hb d_F_someWords_58 (lv_at hl 4 rfl) ?_
      refine lv_iand hx hb d_F_someWords_60 ?_
      refine xr_lald hx hb hw h2 d_F_someWords_61 ?_
      refine lv_lload hx hb d_F_someWords_62 (lv_at hl 1 rfl) ?_
      refine lv_lxor hx hb d_F_someWords_64 ?_
      refine lv_aload hx hb d_F_someWords_65 (lv_at hl 3 rfl) ?_
      refine lv_iload_n hx hb d_F_someWords_67 rfl (lv_at hl 0 rfl) ?_
      refine lv_iload hx hb d_F_someWords_68 (lv_at hl 8 rfl) ?_
      refine lv_ior hx hb d_F_someWords_70 ?_
      refine lv_iload hx hb d_F_someWords_71 (lv_at hl 5 rfl) ?_
      refine lv_iand hx hb d_F_someWords_73 ?_
      refine xr_lald hx hb hw h3 d_F_someWords_74 ?_
      refine lv_lload hx hb d_F_someWords_75 (lv_at hl 1 rfl) ?_
      refine lv_lxor hx hb d_F_someWords_77 ?_
      refine lv_land hx hb d_F_someWords_78 ?_
      refine lv_lor hx hb d_F_someWords_79 ?_
      refine lv_lstore (lv' := [(12, .long y4), (3, .int x3), (5, .long x5), (7, .ref x7), (8, .ref x8), (9, .int x9), (10, .int x10), (11, .int x11), (14, .int x14)]) hx hb d_F_someWords_80 hl (by decide) (by subst ey4; rfl) (fun ls hl => ?_)
      refine lv_iload hx hb d_F_someWords_82 (lv_at hl 8 rfl) ?_
      refine lv_iload hx hb d_F_someWords_84 (lv_at hl 7 rfl) ?_
      refine lv_ior hx hb d_F_someWords_86 ?_
      refine lv_iconst (v := 1) hx hb d_F_someWords_87 (by decide) ?_
      refine lv_iadd hx hb d_F_someWords_88 ?_
      refine lv_iload hx hb d_F_someWords_89 (lv_at hl 7 rfl) ?_
      refine lv_iconst (v := (-1)) hx hb d_F_someWords_91 (by decide) ?_
      refine lv_ixor hx hb d_F_someWords_92 ?_
      refine lv_iand hx hb d_F_someWords_93 ?_
      refine lv_istore (lv' := [(14, .int y5), (12, .long y4), (3, .int x3), (5, .long x5), (7, .ref x7), (8, .ref x8), (9, .int x9), (10, .int x10), (11, .int x11)]) hx hb d_F_someWords_94 hl (by decide) (by subst ey5; rfl) (fun ls hl => ?_)
      refine lv_goto (tgt := 43) hx hb d_F_someWords_96 (by decide) ?_
      exact w9 p e s m args below meth c A H locs ls F hw (lv_sub hl [2, 3, 4, 5, 6, 7, 8, 1, 0] rfl)
set_option maxRecDepth 100000 in
set_option maxHeartbeats 4000000 in
theorem c_F_someWords (l : Launch) (Z : XZ) (x0 : Nat) (x1 : Int32) (x2 : Int32) (x3 : Int32) (x4 : Int32) (x5 : Int64) (u : PS) (K : Int64 → PS → Prop) (k : p_F_someWords x0 x1 x2 x3 x4 x5 u K) : ∃ (rv : Option Value) (u1 : PS), (kJ K) rv u1 ∧ XMet l Z i_F_someWords [.ref x0, .int x1, .int x2, .int x3, .int x4, .long x5] u rv u1 := by
  refine x_met (by decide) rfl (Nat.le_of_ble_eq_true rfl) ?_
  show XN l Z i_F_someWords u (kJ K) u 0 [(0, .ref x0), (1, .int x1), (2, .int x2), (3, .int x3), (4, .int x4), (5, .long x5)] []
  unfold p_F_someWords at k
  obtain ⟨z_18, h1, k⟩ := k
  obtain ⟨z_19, h2, k⟩ := k
  obtain ⟨z_20, h3, k⟩ := k
  obtain ⟨z_21, h4, k⟩ := k
  obtain ⟨h6, k⟩ := k
  obtain ⟨_, u_22, ⟨r_23, rfl, k⟩, hM5⟩ := c_F_keptWords l Z x0 x1 u _ k
  obtain ⟨h8, k⟩ := k
  obtain ⟨_, u_24, ⟨r_25, rfl, k⟩, hM7⟩ := c_F_keptWords l Z x0 x2 u_22 _ k
  obtain ⟨_, u_26, ⟨r_27, rfl, k⟩, hM9⟩ := c_F_leftOut l Z x4 u_24 _ k
  obtain ⟨n10, k⟩ := k
  have hx13 : ∀ (y12_11 : Int64) (v12 : PS), (K y12_11 v12) → XN l Z i_F_someWords u (kJ K) v12 99 [(12, .long y12_11)] [] := by
    intro y12_11 v12 k
    have hle_v12 : x_le v12 v12 := x_le.rf v12
    refine ⟨some (.long y12_11), v12, ⟨y12_11, rfl, k⟩, hle_v12, ?_⟩
    intro p e s m args below meth c A H locs ls F hw hl
    obtain ⟨⟨hx, hb, hml, hown, hts⟩, hr, hlocks, hmn⟩ := id F
    refine lv_lload hx hb d_F_someWords_99 (lv_at hl 0 rfl) ?_
    exact xr_lret F rfl hw d_F_someWords_101
  obtain ⟨rv, v9, hK, hle_u_26, w9⟩ := t_F_someWords_L43 l Z u x3 x5 z_19 z_21 r_23 r_25 r_27 hx13 n10 (0 : Int64) (0 : Int32) u_26 k
  have hle_u_24 : x_le u_24 v9 := (hM9.1).tr hle_u_26
  have hle_u_22 : x_le u_22 v9 := (hM7.1).tr hle_u_24
  have hle_u : x_le u v9 := (hM5.1).tr hle_u_22
  refine ⟨rv, v9, hK, hle_u, ?_⟩
  intro p e s m args below meth c A H locs ls F hw hl
  obtain ⟨⟨hx, hb, hml, hown, hts⟩, hr, hlocks, hmn⟩ := id F
  refine lv_aload_n hx hb d_F_someWords_0 rfl (lv_at hl 0 rfl) ?_
  refine xr_get hx hb hts (xmu uws_F) hown hw h1 rfl (by decide) (hts _ (xm w_34)) (fun _ h9 => h9) d_F_someWords_1 ?_
  refine lv_iload_n hx hb d_F_someWords_4 rfl (lv_at hl 1 rfl) ?_
  refine xr_aald hx hb hw rfl h2 d_F_someWords_5 ?_
  refine lv_astore (lv' := [(7, .ref z_19), (0, .ref x0), (1, .int x1), (2, .int x2), (3, .int x3), (4, .int x4), (5, .long x5)]) hx hb d_F_someWords_6 hl (by decide) rfl (fun ls hl => ?_)
  refine lv_aload_n hx hb d_F_someWords_8 rfl (lv_at hl 1 rfl) ?_
  refine xr_get hx hb hts (xmu uws_F) hown hw h3 rfl (by decide) (hts _ (xm w_34)) (fun _ h9 => h9) d_F_someWords_9 ?_
  refine lv_iload_n hx hb d_F_someWords_12 rfl (lv_at hl 3 rfl) ?_
  refine xr_aald hx hb hw rfl h4 d_F_someWords_13 ?_
  refine lv_astore (lv' := [(8, .ref z_21), (7, .ref z_19), (0, .ref x0), (1, .int x1), (2, .int x2), (3, .int x3), (4, .int x4), (5, .long x5)]) hx hb d_F_someWords_14 hl (by decide) rfl (fun ls hl => ?_)
  refine lv_aload_n hx hb d_F_someWords_16 rfl (lv_at hl 2 rfl) ?_
  refine lv_iload_n hx hb d_F_someWords_17 rfl (lv_at hl 3 rfl) ?_
  refine xr_cV (As := [.int x1]) (rest := []) ⟨hx, hb, hml, hown, hts⟩ hw hM5 hle_u_22 (fun _ _ => ⟨callB_of 1 hts (xgood w_264) rfl rfl rfl (hts _ (xm w_2)) (hts _ (xm w_261)) ⟨by decide, by decide, by decide +kernel⟩ ⟨Nat.le_of_ble_eq_true rfl, Nat.le_of_ble_eq_true rfl⟩, (hts _ (xm w_263)), (hts _ (xm wp_1))⟩) (qc := (R_F, F_F, 5)) rfl rfl h6 rfl hl.1 rfl (Nat.le_of_ble_eq_true rfl) d_F_someWords_18 (fun H locs hw => ?_)
  refine W.eq (g2 := F0 m 21 ls [.int r_23]) rfl ?_
  refine lv_istore (lv' := [(9, .int r_23), (8, .ref z_21), (7, .ref z_19), (0, .ref x0), (1, .int x1), (2, .int x2), (3, .int x3), (4, .int x4), (5, .long x5)]) hx hb d_F_someWords_21 hl (by decide) rfl (fun ls hl => ?_)
  refine lv_aload_n hx hb d_F_someWords_23 rfl (lv_at hl 3 rfl) ?_
  refine lv_iload_n hx hb d_F_someWords_24 rfl (lv_at hl 5 rfl) ?_
  refine xr_cV (As := [.int x2]) (rest := []) ⟨hx, hb, hml, hown, hts⟩ hw hM7 hle_u_24 (fun _ _ => ⟨callB_of 1 hts (xgood w_264) rfl rfl rfl (hts _ (xm w_2)) (hts _ (xm w_261)) ⟨by decide, by decide, by decide +kernel⟩ ⟨Nat.le_of_ble_eq_true rfl, Nat.le_of_ble_eq_true rfl⟩, (hts _ (xm w_263)), (hts _ (xm wp_1))⟩) (qc := (R_F, F_F, 5)) rfl rfl h8 rfl hl.1 rfl (Nat.le_of_ble_eq_true rfl) d_F_someWords_25 (fun H locs hw => ?_)
  refine W.eq (g2 := F0 m 28 ls [.int r_25]) rfl ?_
  refine lv_istore (lv' := [(10, .int r_25), (9, .int r_23), (8, .ref z_21), (7, .ref z_19), (0, .ref x0), (1, .int x1), (2, .int x2), (3, .int x3), (4, .int x4), (5, .long x5)]) hx hb d_F_someWords_28 hl (by decide) rfl (fun ls hl => ?_)
  refine lv_iload hx hb d_F_someWords_30 (lv_at hl 8 rfl) ?_
  refine xr_cS (As := [.int x4]) (rest := []) ⟨hx, hb, hml, hown, hts⟩ hw hM9 hle_u_26 (fun _ _ => ⟨callB_of 1 hts (xgood w_267) rfl rfl rfl (hts _ (xm w_2)) (hts _ (xm w_265)) ⟨by decide, by decide, by decide +kernel⟩ ⟨Nat.le_of_ble_eq_true rfl, Nat.le_of_ble_eq_true rfl⟩, (hts _ (xm w_266))⟩) rfl hl.1 rfl (Nat.le_of_ble_eq_true rfl) d_F_someWords_32 (fun H locs hw => ?_)
  refine W.eq (g2 := F0 m 35 ls [.int r_27]) rfl ?_
  refine lv_istore (lv' := [(11, .int r_27), (10, .int r_25), (9, .int r_23), (8, .ref z_21), (7, .ref z_19), (0, .ref x0), (1, .int x1), (2, .int x2), (3, .int x3), (4, .int x4), (5, .long x5)]) hx hb d_F_someWords_35 hl (by decide) rfl (fun ls hl => ?_)
  refine lv_lconst (v := 0) hx hb d_F_someWords_37 (by decide) ?_
  refine lv_lstore (lv' := [(12, .long 0), (11, .int r_27), (10, .int r_25), (9, .int r_23), (8, .ref z_21), (7, .ref z_19), (0, .ref x0), (1, .int x1), (2, .int x2), (3, .int x3), (4, .int x4), (5, .long x5)]) hx hb d_F_someWords_38 hl (by decide) rfl (fun ls hl => ?_)
  refine lv_iconst (v := 0) hx hb d_F_someWords_40 (by decide) ?_
  refine lv_istore (lv' := [(14, .int 0), (12, .long 0), (11, .int r_27), (10, .int r_25), (9, .int r_23), (8, .ref z_21), (7, .ref z_19), (0, .ref x0), (1, .int x1), (2, .int x2), (3, .int x3), (4, .int x4), (5, .long x5)]) hx hb d_F_someWords_41 hl (by decide) rfl (fun ls hl => ?_)
  exact w9 p e s m args below meth c A H locs ls F hw (lv_sub hl [10, 12, 6, 5, 4, 3, 2, 1, 0] rfl)
set_option maxRecDepth 100000 in
set_option maxHeartbeats 4000000 in
theorem t_JI_numberOfTrailingZeros_J74 (l : Launch) (Z : XZ) (u0 : PS) {K : Int32 → PS → Prop} (x0 : Int32) (x1 : Int32) (u : PS) (k : (p_JI_numberOfTrailingZeros_J74 K x0 x1 u)) : XN l Z i_JI_numberOfTrailingZeros u0 (kI K) u 74 [(0, .int x0), (1, .int x1)] [] := by
  unfold p_JI_numberOfTrailingZeros_J74 at k
  have hle_u : x_le u u := x_le.rf u
  refine ⟨some (.int (x1 + ((x0.toUInt32 >>> ((1 : Int32).toUInt32 &&& Int32.toUInt32 31)).toInt32))), u, ⟨(x1 + ((x0.toUInt32 >>> ((1 : Int32).toUInt32 &&& Int32.toUInt32 31)).toInt32)), rfl, k⟩, hle_u, ?_⟩
  intro p e s m args below meth c A H locs ls F hw hl
  obtain ⟨⟨hx, hb, hml, hown, hts⟩, hr, hlocks, hmn⟩ := id F
  refine lv_iload_n hx hb d_JI_numberOfTrailingZeros_74 rfl (lv_at hl 1 rfl) ?_
  refine lv_iload_n hx hb d_JI_numberOfTrailingZeros_75 rfl (lv_at hl 0 rfl) ?_
  refine lv_iconst (v := 1) hx hb d_JI_numberOfTrailingZeros_76 (by decide) ?_
  refine lv_iushr hx hb d_JI_numberOfTrailingZeros_77 rfl ?_
  refine lv_iadd hx hb d_JI_numberOfTrailingZeros_78 ?_
  exact xr_iret F rfl hw d_JI_numberOfTrailingZeros_79
set_option maxRecDepth 100000 in
set_option maxHeartbeats 4000000 in
theorem t_JI_numberOfTrailingZeros_J62 (l : Launch) (Z : XZ) (u0 : PS) {K : Int32 → PS → Prop} (x0 : Int32) (x1 : Int32) (u : PS) (k : (p_JI_numberOfTrailingZeros_J62 K x0 x1 u)) : XN l Z i_JI_numberOfTrailingZeros u0 (kI K) u 62 [(0, .int x0), (1, .int x1)] [] := by
  unfold p_JI_numberOfTrailingZeros_J62 at k
  by_cases hc1 : x0 ≤ 4
  · have k := k.1 hc1
    obtain ⟨rv, v9, hK, hle_u, w9⟩ := t_JI_numberOfTrailingZeros_J74 l Z u0 x0 x1 u k
    refine ⟨rv, v9, hK, hle_u, ?_⟩
    intro p e s m args below meth c A H locs ls F hw hl
    obtain ⟨⟨hx, hb, hml, hown, hts⟩, hr, hlocks, hmn⟩ := id F
    refine lv_iload_n hx hb d_JI_numberOfTrailingZeros_62 rfl (lv_at hl 0 rfl) ?_
    refine lv_iconst (v := 4) hx hb d_JI_numberOfTrailingZeros_63 (by decide) ?_
    refine lv_icmp_le (tgt := 74) hx hb d_JI_numberOfTrailingZeros_64 (by decide) (fun _ => ?_) (fun c9 => absurd hc1 c9)
    exact w9 p e s m args below meth c A H locs ls F hw (lv_sub hl [0, 1] rfl)
  · have k := k.2 hc1
    obtain ⟨y2, ey2⟩ : ∃ y9 : Int32, y9 = x1 + 2 := ⟨_, rfl⟩
    have k := k y2 ey2
    obtain ⟨y3, ey3⟩ : ∃ y9 : Int32, y9 = ((x0.toUInt32 >>> ((2 : Int32).toUInt32 &&& Int32.toUInt32 31)).toInt32) := ⟨_, rfl⟩
    have k := k y3 ey3
    obtain ⟨rv, v9, hK, hle_u, w9⟩ := t_JI_numberOfTrailingZeros_J74 l Z u0 y3 y2 u k
    refine ⟨rv, v9, hK, hle_u, ?_⟩
    intro p e s m args below meth c A H locs ls F hw hl
    obtain ⟨⟨hx, hb, hml, hown, hts⟩, hr, hlocks, hmn⟩ := id F
    refine lv_iload_n hx hb d_JI_numberOfTrailingZeros_62 rfl (lv_at hl 0 rfl) ?_
    refine lv_iconst (v := 4) hx hb d_JI_numberOfTrailingZeros_63 (by decide) ?_
    refine lv_icmp_le (tgt := 74) hx hb d_JI_numberOfTrailingZeros_64 (by decide) (fun c9 => absurd c9 hc1) (fun _ => ?_)
    refine lv_iinc (v := y2) (lv' := [(1, .int y2), (0, .int x0)]) hx hb d_JI_numberOfTrailingZeros_67 hl (k := 1) rfl (by subst ey2; rfl) (by decide) rfl (fun ls hl => ?_)
    refine lv_iload_n hx hb d_JI_numberOfTrailingZeros_70 rfl (lv_at hl 1 rfl) ?_
    refine lv_iconst (v := 2) hx hb d_JI_numberOfTrailingZeros_71 (by decide) ?_
    refine lv_iushr hx hb d_JI_numberOfTrailingZeros_72 rfl ?_
    refine lv_istore_n (lv' := [(0, .int y3), (1, .int y2)]) hx hb d_JI_numberOfTrailingZeros_73 rfl hl (by decide) (by subst ey3; rfl) (fun ls hl => ?_)
    exact w9 p e s m args below meth c A H locs ls F hw (lv_sub hl [0, 1] rfl)
set_option maxRecDepth 100000 in
set_option maxHeartbeats 4000000 in
theorem t_JI_numberOfTrailingZeros_J49 (l : Launch) (Z : XZ) (u0 : PS) {K : Int32 → PS → Prop} (x0 : Int32) (x1 : Int32) (u : PS) (k : (p_JI_numberOfTrailingZeros_J49 K x0 x1 u)) : XN l Z i_JI_numberOfTrailingZeros u0 (kI K) u 49 [(0, .int x0), (1, .int x1)] [] := by
  unfold p_JI_numberOfTrailingZeros_J49 at k
  by_cases hc1 : x0 ≤ 16
  · have k := k.1 hc1
    obtain ⟨rv, v9, hK, hle_u, w9⟩ := t_JI_numberOfTrailingZeros_J62 l Z u0 x0 x1 u k
    refine ⟨rv, v9, hK, hle_u, ?_⟩
    intro p e s m args below meth c A H locs ls F hw hl
    obtain ⟨⟨hx, hb, hml, hown, hts⟩, hr, hlocks, hmn⟩ := id F
    refine lv_iload_n hx hb d_JI_numberOfTrailingZeros_49 rfl (lv_at hl 0 rfl) ?_
    refine lv_bipush (v := 16) hx hb d_JI_numberOfTrailingZeros_50 (by decide) ?_
    refine lv_icmp_le (tgt := 62) hx hb d_JI_numberOfTrailingZeros_52 (by decide) (fun _ => ?_) (fun c9 => absurd hc1 c9)
    exact w9 p e s m args below meth c A H locs ls F hw (lv_sub hl [0, 1] rfl)
  · have k := k.2 hc1
    obtain ⟨y2, ey2⟩ : ∃ y9 : Int32, y9 = x1 + 4 := ⟨_, rfl⟩
    have k := k y2 ey2
    obtain ⟨y3, ey3⟩ : ∃ y9 : Int32, y9 = ((x0.toUInt32 >>> ((4 : Int32).toUInt32 &&& Int32.toUInt32 31)).toInt32) := ⟨_, rfl⟩
    have k := k y3 ey3
    obtain ⟨rv, v9, hK, hle_u, w9⟩ := t_JI_numberOfTrailingZeros_J62 l Z u0 y3 y2 u k
    refine ⟨rv, v9, hK, hle_u, ?_⟩
    intro p e s m args below meth c A H locs ls F hw hl
    obtain ⟨⟨hx, hb, hml, hown, hts⟩, hr, hlocks, hmn⟩ := id F
    refine lv_iload_n hx hb d_JI_numberOfTrailingZeros_49 rfl (lv_at hl 0 rfl) ?_
    refine lv_bipush (v := 16) hx hb d_JI_numberOfTrailingZeros_50 (by decide) ?_
    refine lv_icmp_le (tgt := 62) hx hb d_JI_numberOfTrailingZeros_52 (by decide) (fun c9 => absurd c9 hc1) (fun _ => ?_)
    refine lv_iinc (v := y2) (lv' := [(1, .int y2), (0, .int x0)]) hx hb d_JI_numberOfTrailingZeros_55 hl (k := 1) rfl (by subst ey2; rfl) (by decide) rfl (fun ls hl => ?_)
    refine lv_iload_n hx hb d_JI_numberOfTrailingZeros_58 rfl (lv_at hl 1 rfl) ?_
    refine lv_iconst (v := 4) hx hb d_JI_numberOfTrailingZeros_59 (by decide) ?_
    refine lv_iushr hx hb d_JI_numberOfTrailingZeros_60 rfl ?_
    refine lv_istore_n (lv' := [(0, .int y3), (1, .int y2)]) hx hb d_JI_numberOfTrailingZeros_61 rfl hl (by decide) (by subst ey3; rfl) (fun ls hl => ?_)
    exact w9 p e s m args below meth c A H locs ls F hw (lv_sub hl [0, 1] rfl)
set_option maxRecDepth 100000 in
set_option maxHeartbeats 4000000 in
theorem t_JI_numberOfTrailingZeros_J34 (l : Launch) (Z : XZ) (u0 : PS) {K : Int32 → PS → Prop} (x0 : Int32) (x1 : Int32) (u : PS) (k : (p_JI_numberOfTrailingZeros_J34 K x0 x1 u)) : XN l Z i_JI_numberOfTrailingZeros u0 (kI K) u 34 [(0, .int x0), (1, .int x1)] [] := by
  unfold p_JI_numberOfTrailingZeros_J34 at k
  by_cases hc1 : x0 ≤ 256
  · have k := k.1 hc1
    obtain ⟨rv, v9, hK, hle_u, w9⟩ := t_JI_numberOfTrailingZeros_J49 l Z u0 x0 x1 u k
    refine ⟨rv, v9, hK, hle_u, ?_⟩
    intro p e s m args below meth c A H locs ls F hw hl
    obtain ⟨⟨hx, hb, hml, hown, hts⟩, hr, hlocks, hmn⟩ := id F
    refine lv_iload_n hx hb d_JI_numberOfTrailingZeros_34 rfl (lv_at hl 0 rfl) ?_
    refine lv_sipush (v := 256) hx hb d_JI_numberOfTrailingZeros_35 (by decide) ?_
    refine lv_icmp_le (tgt := 49) hx hb d_JI_numberOfTrailingZeros_38 (by decide) (fun _ => ?_) (fun c9 => absurd hc1 c9)
    exact w9 p e s m args below meth c A H locs ls F hw (lv_sub hl [0, 1] rfl)
  · have k := k.2 hc1
    obtain ⟨y2, ey2⟩ : ∃ y9 : Int32, y9 = x1 + 8 := ⟨_, rfl⟩
    have k := k y2 ey2
    obtain ⟨y3, ey3⟩ : ∃ y9 : Int32, y9 = ((x0.toUInt32 >>> ((8 : Int32).toUInt32 &&& Int32.toUInt32 31)).toInt32) := ⟨_, rfl⟩
    have k := k y3 ey3
    obtain ⟨rv, v9, hK, hle_u, w9⟩ := t_JI_numberOfTrailingZeros_J49 l Z u0 y3 y2 u k
    refine ⟨rv, v9, hK, hle_u, ?_⟩
    intro p e s m args below meth c A H locs ls F hw hl
    obtain ⟨⟨hx, hb, hml, hown, hts⟩, hr, hlocks, hmn⟩ := id F
    refine lv_iload_n hx hb d_JI_numberOfTrailingZeros_34 rfl (lv_at hl 0 rfl) ?_
    refine lv_sipush (v := 256) hx hb d_JI_numberOfTrailingZeros_35 (by decide) ?_
    refine lv_icmp_le (tgt := 49) hx hb d_JI_numberOfTrailingZeros_38 (by decide) (fun c9 => absurd c9 hc1) (fun _ => ?_)
    refine lv_iinc (v := y2) (lv' := [(1, .int y2), (0, .int x0)]) hx hb d_JI_numberOfTrailingZeros_41 hl (k := 1) rfl (by subst ey2; rfl) (by decide) rfl (fun ls hl => ?_)
    refine lv_iload_n hx hb d_JI_numberOfTrailingZeros_44 rfl (lv_at hl 1 rfl) ?_
    refine lv_bipush (v := 8) hx hb d_JI_numberOfTrailingZeros_45 (by decide) ?_
    refine lv_iushr hx hb d_JI_numberOfTrailingZeros_47 rfl ?_
    refine lv_istore_n (lv' := [(0, .int y3), (1, .int y2)]) hx hb d_JI_numberOfTrailingZeros_48 rfl hl (by decide) (by subst ey3; rfl) (fun ls hl => ?_)
    exact w9 p e s m args below meth c A H locs ls F hw (lv_sub hl [0, 1] rfl)
set_option maxRecDepth 100000 in
set_option maxHeartbeats 4000000 in
theorem c_JI_numberOfTrailingZeros (l : Launch) (Z : XZ) (x0 : Int32) (u : PS) (K : Int32 → PS → Prop) (k : p_JI_numberOfTrailingZeros x0 u K) : ∃ (rv : Option Value) (u1 : PS), (kI K) rv u1 ∧ XMet l Z i_JI_numberOfTrailingZeros [.int x0] u rv u1 := by
  refine x_met (by decide) rfl (Nat.le_of_ble_eq_true rfl) ?_
  show XN l Z i_JI_numberOfTrailingZeros u (kI K) u 0 [(0, .int x0)] []
  unfold p_JI_numberOfTrailingZeros at k
  obtain ⟨y1, ey1⟩ : ∃ y9 : Int32, y9 = ((x0 ^^^ (-1 : Int32)) &&& (x0 - (1 : Int32))) := ⟨_, rfl⟩
  have k := k y1 ey1
  by_cases hc2 : 0 < y1
  · have k := k.1 hc2
    by_cases hc3 : y1 ≤ 65536
    · have k := k.1 hc3
      obtain ⟨rv, v9, hK, hle_u, w9⟩ := t_JI_numberOfTrailingZeros_J34 l Z u y1 (1 : Int32) u k
      refine ⟨rv, v9, hK, hle_u, ?_⟩
      intro p e s m args below meth c A H locs ls F hw hl
      obtain ⟨⟨hx, hb, hml, hown, hts⟩, hr, hlocks, hmn⟩ := id F
      refine lv_iload_n hx hb d_JI_numberOfTrailingZeros_0 rfl (lv_at hl 0 rfl) ?_
      refine lv_iconst (v := (-1)) hx hb d_JI_numberOfTrailingZeros_1 (by decide) ?_
      refine lv_ixor hx hb d_JI_numberOfTrailingZeros_2 ?_
      refine lv_iload_n hx hb d_JI_numberOfTrailingZeros_3 rfl (lv_at hl 0 rfl) ?_
      refine lv_iconst (v := 1) hx hb d_JI_numberOfTrailingZeros_4 (by decide) ?_
      refine lv_isub hx hb d_JI_numberOfTrailingZeros_5 ?_
      refine lv_iand hx hb d_JI_numberOfTrailingZeros_6 ?_
      refine lv_istore_n (lv' := [(0, .int y1)]) hx hb d_JI_numberOfTrailingZeros_7 rfl hl (by decide) (by subst ey1; rfl) (fun ls hl => ?_)
      refine lv_iload_n hx hb d_JI_numberOfTrailingZeros_8 rfl (lv_at hl 0 rfl) ?_
      refine lv_if_gt (tgt := 17) hx hb d_JI_numberOfTrailingZeros_9 (by decide) (fun _ => ?_) (fun c9 => absurd hc2 c9)
      refine lv_iconst (v := 1) hx hb d_JI_numberOfTrailingZeros_17 (by decide) ?_
      refine lv_istore_n (lv' := [(1, .int 1), (0, .int y1)]) hx hb d_JI_numberOfTrailingZeros_18 rfl hl (by decide) rfl (fun ls hl => ?_)
      refine lv_iload_n hx hb d_JI_numberOfTrailingZeros_19 rfl (lv_at hl 1 rfl) ?_
      refine lv_ldcw (v := 65536) hx hb hown (hts _ (xm w_69)) d_JI_numberOfTrailingZeros_20 ?_
      refine lv_icmp_le (tgt := 34) hx hb d_JI_numberOfTrailingZeros_23 (by decide) (fun _ => ?_) (fun c9 => absurd hc3 c9)
      exact w9 p e s m args below meth c A H locs ls F hw (lv_sub hl [1, 0] rfl)
    · have k := k.2 hc3
      obtain ⟨y4, ey4⟩ : ∃ y9 : Int32, y9 = (1 : Int32) + 16 := ⟨_, rfl⟩
      have k := k y4 ey4
      obtain ⟨y5, ey5⟩ : ∃ y9 : Int32, y9 = ((y1.toUInt32 >>> ((16 : Int32).toUInt32 &&& Int32.toUInt32 31)).toInt32) := ⟨_, rfl⟩
      have k := k y5 ey5
      obtain ⟨rv, v9, hK, hle_u, w9⟩ := t_JI_numberOfTrailingZeros_J34 l Z u y5 y4 u k
      refine ⟨rv, v9, hK, hle_u, ?_⟩
      intro p e s m args below meth c A H locs ls F hw hl
      obtain ⟨⟨hx, hb, hml, hown, hts⟩, hr, hlocks, hmn⟩ := id F
      refine lv_iload_n hx hb d_JI_numberOfTrailingZeros_0 rfl (lv_at hl 0 rfl) ?_
      refine lv_iconst (v := (-1)) hx hb d_JI_numberOfTrailingZeros_1 (by decide) ?_
      refine lv_ixor hx hb d_JI_numberOfTrailingZeros_2 ?_
      refine lv_iload_n hx hb d_JI_numberOfTrailingZeros_3 rfl (lv_at hl 0 rfl) ?_
      refine lv_iconst (v := 1) hx hb d_JI_numberOfTrailingZeros_4 (by decide) ?_
      refine lv_isub hx hb d_JI_numberOfTrailingZeros_5 ?_
      refine lv_iand hx hb d_JI_numberOfTrailingZeros_6 ?_
      refine lv_istore_n (lv' := [(0, .int y1)]) hx hb d_JI_numberOfTrailingZeros_7 rfl hl (by decide) (by subst ey1; rfl) (fun ls hl => ?_)
      refine lv_iload_n hx hb d_JI_numberOfTrailingZeros_8 rfl (lv_at hl 0 rfl) ?_
      refine lv_if_gt (tgt := 17) hx hb d_JI_numberOfTrailingZeros_9 (by decide) (fun _ => ?_) (fun c9 => absurd hc2 c9)
      refine lv_iconst (v := 1) hx hb d_JI_numberOfTrailingZeros_17 (by decide) ?_
      refine lv_istore_n (lv' := [(1, .int 1), (0, .int y1)]) hx hb d_JI_numberOfTrailingZeros_18 rfl hl (by decide) rfl (fun ls hl => ?_)
      refine lv_iload_n hx hb d_JI_numberOfTrailingZeros_19 rfl (lv_at hl 1 rfl) ?_
      refine lv_ldcw (v := 65536) hx hb hown (hts _ (xm w_69)) d_JI_numberOfTrailingZeros_20 ?_
      refine lv_icmp_le (tgt := 34) hx hb d_JI_numberOfTrailingZeros_23 (by decide) (fun c9 => absurd c9 hc3) (fun _ => ?_)
      refine lv_iinc (v := y4) (lv' := [(1, .int y4), (0, .int y1)]) hx hb d_JI_numberOfTrailingZeros_26 hl (k := 0) rfl (by subst ey4; rfl) (by decide) rfl (fun ls hl => ?_)
      refine lv_iload_n hx hb d_JI_numberOfTrailingZeros_29 rfl (lv_at hl 1 rfl) ?_
      refine lv_bipush (v := 16) hx hb d_JI_numberOfTrailingZeros_30 (by decide) ?_
      refine lv_iushr hx hb d_JI_numberOfTrailingZeros_32 rfl ?_
      refine lv_istore_n (lv' := [(0, .int y5), (1, .int y4)]) hx hb d_JI_numberOfTrailingZeros_33 rfl hl (by decide) (by subst ey5; rfl) (fun ls hl => ?_)
      exact w9 p e s m args below meth c A H locs ls F hw (lv_sub hl [0, 1] rfl)
  · have k := k.2 hc2
    have hle_u : x_le u u := x_le.rf u
    refine ⟨some (.int (y1 &&& (32 : Int32))), u, ⟨(y1 &&& (32 : Int32)), rfl, k⟩, hle_u, ?_⟩
    intro p e s m args below meth c A H locs ls F hw hl
    obtain ⟨⟨hx, hb, hml, hown, hts⟩, hr, hlocks, hmn⟩ := id F
    refine lv_iload_n hx hb d_JI_numberOfTrailingZeros_0 rfl (lv_at hl 0 rfl) ?_
    refine lv_iconst (v := (-1)) hx hb d_JI_numberOfTrailingZeros_1 (by decide) ?_
    refine lv_ixor hx hb d_JI_numberOfTrailingZeros_2 ?_
    refine lv_iload_n hx hb d_JI_numberOfTrailingZeros_3 rfl (lv_at hl 0 rfl) ?_
    refine lv_iconst (v := 1) hx hb d_JI_numberOfTrailingZeros_4 (by decide) ?_
    refine lv_isub hx hb d_JI_numberOfTrailingZeros_5 ?_
    refine lv_iand hx hb d_JI_numberOfTrailingZeros_6 ?_
    refine lv_istore_n (lv' := [(0, .int y1)]) hx hb d_JI_numberOfTrailingZeros_7 rfl hl (by decide) (by subst ey1; rfl) (fun ls hl => ?_)
    refine lv_iload_n hx hb d_JI_numberOfTrailingZeros_8 rfl (lv_at hl 0 rfl) ?_
    refine lv_if_gt (tgt := 17) hx hb d_JI_numberOfTrailingZeros_9 (by decide) (fun c9 => absurd c9 hc2) (fun _ => ?_)
    refine lv_iload_n hx hb d_JI_numberOfTrailingZeros_12 rfl (lv_at hl 0 rfl) ?_
    refine lv_bipush (v := 32) hx hb d_JI_numberOfTrailingZeros_13 (by decide) ?_
    refine lv_iand hx hb d_JI_numberOfTrailingZeros_15 ?_
    exact xr_iret F rfl hw d_JI_numberOfTrailingZeros_16
set_option maxRecDepth 100000 in
set_option maxHeartbeats 4000000 in
theorem t_F_someWithin_L8 (l : Launch) (Z : XZ) (u0 : PS) {Kv : Option Value → PS → Prop} {E66 : Int64 → PS → Prop} (hE66 : ∀ (y3 : Int64) (v : PS), E66 y3 v → XN l Z i_F_someWithin u0 Kv v 66 [(3, .long y3)] []) : ∀ (n : Nat) (x3 : Int64) (x5 : Int32) (u : PS), p_F_someWithin_L8 E66 n x3 x5 u → XN l Z i_F_someWithin u0 Kv u 8 [(3, .long x3), (5, .int x5)] [] := by
  intro n
  induction n with
  | zero => intro x3 x5 u k; exact False.elim k
  | succ n ih =>
    intro x3 x5 u k
    rw [p_F_someWithin_L8] at k
    by_cases hc1 : x5 = 0
    · have k := k.1 hc1
      obtain ⟨rv, v9, hK, hle_u, w9⟩ := hE66 x3 u k
      refine ⟨rv, v9, hK, hle_u, ?_⟩
      intro p e s m args below meth c A H locs ls F hw hl
      obtain ⟨⟨hx, hb, hml, hown, hts⟩, hr, hlocks, hmn⟩ := id F
      refine lv_iload hx hb d_F_someWithin_8 (lv_at hl 1 rfl) ?_
      refine lv_if_eq (tgt := 66) hx hb d_F_someWithin_10 (by decide) (fun _ => ?_) (fun c9 => absurd hc1 c9)
      exact w9 p e s m args below meth c A H locs ls F hw (lv_sub hl [0] rfl)
    · have k := k.2 hc1
      obtain ⟨_, u_12, ⟨r_13, rfl, k⟩, hM2⟩ := c_JI_numberOfTrailingZeros l Z x5 u _ k
      obtain ⟨y3, ey3⟩ : ∃ y9 : Int32, y9 = ((1 : Int32) <<< (r_13 &&& 31)) := ⟨_, rfl⟩
      have k := k y3 ey3
      obtain ⟨h4, k⟩ := k
      obtain ⟨y5, ey5⟩ : ∃ y9 : Int64, y9 = ((x3 ||| ((x3.toUInt64 >>> (y3.toInt64.toUInt64 &&& Int64.toUInt64 63)).toInt64)) &&& ((tab_ONES r_13.toNatClampNeg) ^^^ (-1 : Int64))) := ⟨_, rfl⟩
      have k := k y5 ey5
      obtain ⟨y6, ey6⟩ : ∃ y9 : Int64, y9 = (y5 ||| (y5 <<< (y3.toInt64 &&& 63))) := ⟨_, rfl⟩
      have k := k y6 ey6
      obtain ⟨y7, ey7⟩ : ∃ y9 : Int32, y9 = (x5 &&& (x5 - (1 : Int32))) := ⟨_, rfl⟩
      have k := k y7 ey7
      obtain ⟨rv, v9, hK, hle_u_12, w9⟩ := ih y6 y7 u_12 k
      have hle_u : x_le u v9 := (hM2.1).tr hle_u_12
      refine ⟨rv, v9, hK, hle_u, ?_⟩
      intro p e s m args below meth c A H locs ls F hw hl
      obtain ⟨⟨hx, hb, hml, hown, hts⟩, hr, hlocks, hmn⟩ := id F
      refine lv_iload hx hb d_F_someWithin_8 (lv_at hl 1 rfl) ?_
      refine lv_if_eq (tgt := 66) hx hb d_F_someWithin_10 (by decide) (fun c9 => absurd c9 hc1) (fun _ => ?_)
      refine lv_iload hx hb d_F_someWithin_13 (lv_at hl 1 rfl) ?_
      refine xr_cS (As := [.int x5]) (rest := []) ⟨hx, hb, hml, hown, hts⟩ hw hM2 hle_u_12 (fun _ _ => ⟨callB_of 1 hts (xgood w_68) rfl rfl rfl (hts _ (xm w_5)) (hts _ (xm w_256)) ⟨by decide, by decide, by decide +kernel⟩ ⟨Nat.le_of_ble_eq_true rfl, Nat.le_of_ble_eq_true rfl⟩, (hts _ (xm w_67))⟩) rfl hl.1 rfl (Nat.le_of_ble_eq_true rfl) d_F_someWithin_15 (fun H locs hw => ?_)
      refine W.eq (g2 := F0 m 18 ls [.int r_13]) rfl ?_
      refine lv_istore (lv' := [(6, .int r_13), (3, .long x3), (5, .int x5)]) hx hb d_F_someWithin_18 hl (by decide) rfl (fun ls hl => ?_)
      refine lv_iconst (v := 1) hx hb d_F_someWithin_20 (by decide) ?_
      refine lv_iload hx hb d_F_someWithin_21 (lv_at hl 0 rfl) ?_
      refine lv_ishl hx hb d_F_someWithin_23 ?_
      refine lv_istore (lv' := [(7, .int y3), (6, .int r_13), (3, .long x3), (5, .int x5)]) hx hb d_F_someWithin_24 hl (by decide) (by subst ey3; rfl) (fun ls hl => ?_)
      refine lv_lload_n hx hb d_F_someWithin_26 rfl (lv_at hl 2 rfl) ?_
      refine lv_lload_n hx hb d_F_someWithin_27 rfl (lv_at hl 2 rfl) ?_
      refine lv_iload hx hb d_F_someWithin_28 (lv_at hl 0 rfl) ?_
      refine lv_lushr hx hb d_F_someWithin_30 rfl ?_
      refine lv_lor hx hb d_F_someWithin_31 ?_
      refine va_gets hx hb (XG.z_ONES hw.2.2.2.2.2.1) hw.2.2.2.1 hown (hts _ (xm w_271)) (fun _ h9 => h9) d_F_someWithin_32 ?_
      refine lv_iload hx hb d_F_someWithin_35 (lv_at hl 1 rfl) ?_
      refine va_tl hx hb (XG.t_ONES hw.2.2.2.2.2.1) hw.2.2.2.1 h4 rfl d_F_someWithin_37 ?_
      refine lv_ldc2 (v := (-1)) hx hb hown (hts _ (xm w_273)) d_F_someWithin_38 ?_
      refine lv_lxor hx hb d_F_someWithin_41 ?_
      refine lv_land hx hb d_F_someWithin_42 ?_
      refine lv_lstore (lv' := [(8, .long y5), (7, .int y3), (6, .int r_13), (3, .long x3), (5, .int x5)]) hx hb d_F_someWithin_43 hl (by decide) (by subst ey5; rfl) (fun ls hl => ?_)
      refine lv_lload hx hb d_F_someWithin_45 (lv_at hl 0 rfl) ?_
      refine lv_lload hx hb d_F_someWithin_47 (lv_at hl 0 rfl) ?_
      refine lv_iload hx hb d_F_someWithin_49 (lv_at hl 1 rfl) ?_
      refine lv_lshl hx hb d_F_someWithin_51 rfl ?_
      refine lv_lor hx hb d_F_someWithin_52 ?_
      refine lv_lstore_n (lv' := [(3, .long y6), (8, .long y5), (7, .int y3), (6, .int r_13), (5, .int x5)]) hx hb d_F_someWithin_53 rfl hl (by decide) (by subst ey6; rfl) (fun ls hl => ?_)
      refine lv_iload hx hb d_F_someWithin_54 (lv_at hl 4 rfl) ?_
      refine lv_iload hx hb d_F_someWithin_56 (lv_at hl 4 rfl) ?_
      refine lv_iconst (v := 1) hx hb d_F_someWithin_58 (by decide) ?_
      refine lv_isub hx hb d_F_someWithin_59 ?_
      refine lv_iand hx hb d_F_someWithin_60 ?_
      refine lv_istore (lv' := [(5, .int y7), (3, .long y6), (8, .long y5), (7, .int y3), (6, .int r_13)]) hx hb d_F_someWithin_61 hl (by decide) (by subst ey7; rfl) (fun ls hl => ?_)
      refine lv_goto (tgt := 8) hx hb d_F_someWithin_63 (by decide) ?_
      exact w9 p e s m args below meth c A H locs ls F hw (lv_sub hl [1, 0] rfl)
set_option maxRecDepth 100000 in
set_option maxHeartbeats 4000000 in
theorem c_F_someWithin (l : Launch) (Z : XZ) (x0 : Int64) (x2 : Int32) (u : PS) (K : Int64 → PS → Prop) (k : p_F_someWithin x0 x2 u K) : ∃ (rv : Option Value) (u1 : PS), (kJ K) rv u1 ∧ XMet l Z i_F_someWithin [.long x0, .int x2] u rv u1 := by
  refine x_met (by decide) rfl (Nat.le_of_ble_eq_true rfl) ?_
  show XN l Z i_F_someWithin u (kJ K) u 0 [(0, .long x0), (2, .int x2)] []
  unfold p_F_someWithin at k
  obtain ⟨y1, ey1⟩ : ∃ y9 : Int32, y9 = (x2 &&& (63 : Int32)) := ⟨_, rfl⟩
  have k := k y1 ey1
  obtain ⟨n2, k⟩ := k
  have hx5 : ∀ (y3_3 : Int64) (v4 : PS), (K y3_3 v4) → XN l Z i_F_someWithin u (kJ K) v4 66 [(3, .long y3_3)] [] := by
    intro y3_3 v4 k
    have hle_v4 : x_le v4 v4 := x_le.rf v4
    refine ⟨some (.long y3_3), v4, ⟨y3_3, rfl, k⟩, hle_v4, ?_⟩
    intro p e s m args below meth c A H locs ls F hw hl
    obtain ⟨⟨hx, hb, hml, hown, hts⟩, hr, hlocks, hmn⟩ := id F
    refine lv_lload_n hx hb d_F_someWithin_66 rfl (lv_at hl 0 rfl) ?_
    exact xr_lret F rfl hw d_F_someWithin_67
  obtain ⟨rv, v9, hK, hle_u, w9⟩ := t_F_someWithin_L8 l Z u hx5 n2 x0 y1 u k
  refine ⟨rv, v9, hK, hle_u, ?_⟩
  intro p e s m args below meth c A H locs ls F hw hl
  obtain ⟨⟨hx, hb, hml, hown, hts⟩, hr, hlocks, hmn⟩ := id F
  refine lv_lload_n hx hb d_F_someWithin_0 rfl (lv_at hl 0 rfl) ?_
  refine lv_lstore_n (lv' := [(3, .long x0), (0, .long x0), (2, .int x2)]) hx hb d_F_someWithin_1 rfl hl (by decide) rfl (fun ls hl => ?_)
  refine lv_iload_n hx hb d_F_someWithin_2 rfl (lv_at hl 2 rfl) ?_
  refine lv_bipush (v := 63) hx hb d_F_someWithin_3 (by decide) ?_
  refine lv_iand hx hb d_F_someWithin_5 ?_
  refine lv_istore (lv' := [(5, .int y1), (3, .long x0), (0, .long x0), (2, .int x2)]) hx hb d_F_someWithin_6 hl (by decide) (by subst ey1; rfl) (fun ls hl => ?_)
  exact w9 p e s m args below meth c A H locs ls F hw (lv_sub hl [1, 0] rfl)
set_option maxRecDepth 100000 in
set_option maxHeartbeats 4000000 in
theorem t_F_project_L60 (l : Launch) (Z : XZ) (u0 : PS) {Kv : Option Value → PS → Prop} {E116 : PS → Prop} (x0 : Nat) (x1 : Int32) (x2 : Int32) (x3 : Int32) (x4 : Int32) (x6 : Int32) (x7 : Int32) (x8 : Nat) (x9 : Int64) (x11 : Int32) (hE116 : ∀ (v : PS), E116 v → XN l Z i_F_project u0 Kv v 116 [(0, .ref x0), (1, .int x1), (4, .int x4), (6, .int x6)] []) : ∀ (n : Nat) (x12 : Int32) (u : PS), p_F_project_L60 x0 x1 x2 x3 x4 x6 x7 x8 x9 x11 E116 n x12 u → XN l Z i_F_project u0 Kv u 60 [(0, .ref x0), (1, .int x1), (2, .int x2), (3, .int x3), (4, .int x4), (6, .int x6), (7, .int x7), (8, .ref x8), (9, .long x9), (11, .int x11), (12, .int x12)] [] := by
  intro n
  induction n with
  | zero => intro x12 u k; exact False.elim k
  | succ n ih =>
    intro x12 u k
    rw [p_F_project_L60] at k
    by_cases hc1 : 16 ≤ x12
    · have k := k.1 hc1
      obtain ⟨rv, v9, hK, hle_u, w9⟩ := hE116 u k
      refine ⟨rv, v9, hK, hle_u, ?_⟩
      intro p e s m args below meth c A H locs ls F hw hl
      obtain ⟨⟨hx, hb, hml, hown, hts⟩, hr, hlocks, hmn⟩ := id F
      refine lv_iload hx hb d_F_project_60 (lv_at hl 10 rfl) ?_
      refine lv_bipush (v := 16) hx hb d_F_project_62 (by decide) ?_
      refine lv_icmp_ge (tgt := 116) hx hb d_F_project_64 (by decide) (fun _ => ?_) (fun c9 => absurd hc1 c9)
      exact w9 p e s m args below meth c A H locs ls F hw (lv_sub hl [0, 1, 4, 5] rfl)
    · have k := k.2 hc1
      obtain ⟨h3, k⟩ := k
      obtain ⟨_, u_26, ⟨r_27, rfl, k⟩, hM2⟩ := c_F_someWords l Z x0 x2 x3 x12 (x7 >>> ((6 : Int32) &&& 31)) x9 u _ k
      obtain ⟨_, u_28, ⟨r_29, rfl, k⟩, hM4⟩ := c_F_someWithin l Z r_27 x7 u_26 _ k
      obtain ⟨u_30, h5, k⟩ := k
      obtain ⟨y6, ey6⟩ : ∃ y9 : Int32, y9 = (((x12 ||| x11) + (1 : Int32)) &&& (x11 ^^^ (-1 : Int32))) := ⟨_, rfl⟩
      have k := k y6 ey6
      obtain ⟨rv, v9, hK, hle_u_30, w9⟩ := ih y6 u_30 k
      have hle_u_28 : x_le u_28 v9 := (h5.le).tr hle_u_30
      have hle_u_26 : x_le u_26 v9 := (hM4.1).tr hle_u_28
      have hle_u : x_le u v9 := (hM2.1).tr hle_u_26
      refine ⟨rv, v9, hK, hle_u, ?_⟩
      intro p e s m args below meth c A H locs ls F hw hl
      obtain ⟨⟨hx, hb, hml, hown, hts⟩, hr, hlocks, hmn⟩ := id F
      refine lv_iload hx hb d_F_project_60 (lv_at hl 10 rfl) ?_
      refine lv_bipush (v := 16) hx hb d_F_project_62 (by decide) ?_
      refine lv_icmp_ge (tgt := 116) hx hb d_F_project_64 (by decide) (fun c9 => absurd c9 hc1) (fun _ => ?_)
      refine lv_aload_n hx hb d_F_project_67 rfl (lv_at hl 0 rfl) ?_
      refine lv_iload_n hx hb d_F_project_68 rfl (lv_at hl 2 rfl) ?_
      refine lv_iload_n hx hb d_F_project_69 rfl (lv_at hl 3 rfl) ?_
      refine lv_iload hx hb d_F_project_70 (lv_at hl 10 rfl) ?_
      refine lv_iload hx hb d_F_project_72 (lv_at hl 6 rfl) ?_
      refine lv_bipush (v := 6) hx hb d_F_project_74 (by decide) ?_
      refine lv_ishr hx hb d_F_project_76 ?_
      refine lv_lload hx hb d_F_project_77 (lv_at hl 8 rfl) ?_
      refine xr_cV (As := [.int x2, .int x3, .int x12, .int (x7 >>> ((6 : Int32) &&& 31)), .long x9]) (rest := []) ⟨hx, hb, hml, hown, hts⟩ hw hM2 hle_u_26 (fun _ _ => ⟨callB_of 5 hts (xgood w_714) rfl rfl rfl (hts _ (xm w_2)) (hts _ (xm w_711)) ⟨by decide, by decide, by decide +kernel⟩ ⟨Nat.le_of_ble_eq_true rfl, Nat.le_of_ble_eq_true rfl⟩, (hts _ (xm w_713)), (hts _ (xm wp_36))⟩) (qc := (R_F, F_F, 5)) rfl rfl h3 rfl hl.1 rfl (Nat.le_of_ble_eq_true rfl) d_F_project_79 (fun H locs hw => ?_)
      refine W.eq (g2 := F0 m 82 ls [.long r_27]) rfl ?_
      refine lv_lstore (lv' := [(13, .long r_27), (0, .ref x0), (1, .int x1), (2, .int x2), (3, .int x3), (4, .int x4), (6, .int x6), (7, .int x7), (8, .ref x8), (9, .long x9), (11, .int x11), (12, .int x12)]) hx hb d_F_project_82 hl (by decide) rfl (fun ls hl => ?_)
      refine lv_aload hx hb d_F_project_84 (lv_at hl 8 rfl) ?_
      refine lv_iload hx hb d_F_project_86 (lv_at hl 11 rfl) ?_
      refine lv_lload hx hb d_F_project_88 (lv_at hl 0 rfl) ?_
      refine lv_iload hx hb d_F_project_90 (lv_at hl 7 rfl) ?_
      refine xr_cS (As := [.long r_27, .int x7]) (rest := [.int x12, .ref x8]) ⟨hx, hb, hml, hown, hts⟩ hw hM4 hle_u_28 (fun _ _ => ⟨callB_of 2 hts (xgood w_717) rfl rfl rfl (hts _ (xm w_2)) (hts _ (xm w_715)) ⟨by decide, by decide, by decide +kernel⟩ ⟨Nat.le_of_ble_eq_true rfl, Nat.le_of_ble_eq_true rfl⟩, (hts _ (xm w_716))⟩) rfl hl.1 rfl (Nat.le_of_ble_eq_true rfl) d_F_project_92 (fun H locs hw => ?_)
      refine W.eq (g2 := F0 m 95 ls [.long r_29, .int x12, .ref x8]) rfl ?_
      refine lv_lload hx hb d_F_project_95 (lv_at hl 9 rfl) ?_
      refine lv_lxor hx hb d_F_project_97 ?_
      refine xr_last hx hb hw h5 d_F_project_98 (fun H locs hw => ?_)
      refine lv_iload hx hb d_F_project_99 (lv_at hl 11 rfl) ?_
      refine lv_iload hx hb d_F_project_101 (lv_at hl 10 rfl) ?_
      refine lv_ior hx hb d_F_project_103 ?_
      refine lv_iconst (v := 1) hx hb d_F_project_104 (by decide) ?_
      refine lv_iadd hx hb d_F_project_105 ?_
      refine lv_iload hx hb d_F_project_106 (lv_at hl 10 rfl) ?_
      refine lv_iconst (v := (-1)) hx hb d_F_project_108 (by decide) ?_
      refine lv_ixor hx hb d_F_project_109 ?_
      refine lv_iand hx hb d_F_project_110 ?_
      refine lv_istore (lv' := [(12, .int y6), (13, .long r_27), (0, .ref x0), (1, .int x1), (2, .int x2), (3, .int x3), (4, .int x4), (6, .int x6), (7, .int x7), (8, .ref x8), (9, .long x9), (11, .int x11)]) hx hb d_F_project_111 hl (by decide) (by subst ey6; rfl) (fun ls hl => ?_)
      refine lv_goto (tgt := 60) hx hb d_F_project_113 (by decide) ?_
      exact w9 p e s m args below meth c A H locs ls F hw (lv_sub hl [2, 3, 4, 5, 6, 7, 8, 9, 10, 11, 0] rfl)
set_option maxRecDepth 100000 in
set_option maxHeartbeats 4000000 in
theorem t_F_project_J116 (l : Launch) (Z : XZ) (u0 : PS) {K : PS → Prop} (x0 : Nat) (x1 : Int32) (x4 : Int32) (x6 : Int32) (u : PS) (k : (p_F_project_J116 K x0 x1 x4 x6 u)) : XN l Z i_F_project u0 (kV K) u 116 [(0, .ref x0), (1, .int x1), (4, .int x4), (6, .int x6)] [] := by
  unfold p_F_project_J116 at k
  obtain ⟨h2, k⟩ := k
  obtain ⟨_, u_31, ⟨rfl, k⟩, hM1⟩ := c_F_putSpare l Z x0 x1 (x6 &&& (x4 ^^^ (-1 : Int32))) u _ k
  have hle_u_31 : x_le u_31 u_31 := x_le.rf u_31
  have hle_u : x_le u u_31 := (hM1.1).tr hle_u_31
  refine ⟨none, u_31, ⟨rfl, k⟩, hle_u, ?_⟩
  intro p e s m args below meth c A H locs ls F hw hl
  obtain ⟨⟨hx, hb, hml, hown, hts⟩, hr, hlocks, hmn⟩ := id F
  refine lv_aload_n hx hb d_F_project_116 rfl (lv_at hl 0 rfl) ?_
  refine lv_iload_n hx hb d_F_project_117 rfl (lv_at hl 1 rfl) ?_
  refine lv_iload hx hb d_F_project_118 (lv_at hl 3 rfl) ?_
  refine lv_iload hx hb d_F_project_120 (lv_at hl 2 rfl) ?_
  refine lv_iconst (v := (-1)) hx hb d_F_project_122 (by decide) ?_
  refine lv_ixor hx hb d_F_project_123 ?_
  refine lv_iand hx hb d_F_project_124 ?_
  refine xr_cV (As := [.int x1, .int (x6 &&& (x4 ^^^ (-1 : Int32)))]) (rest := []) ⟨hx, hb, hml, hown, hts⟩ hw hM1 hle_u_31 (fun _ _ => ⟨callB_of 2 hts (xgood w_649) rfl rfl rfl (hts _ (xm w_2)) (hts _ (xm w_646)) ⟨by decide, by decide, by decide +kernel⟩ ⟨Nat.le_of_ble_eq_true rfl, Nat.le_of_ble_eq_true rfl⟩, (hts _ (xm w_648)), (hts _ (xm wp_31))⟩) (qc := (R_F, F_F, 5)) rfl rfl h2 rfl hl.1 rfl (Nat.le_of_ble_eq_true rfl) d_F_project_125 (fun H locs hw => ?_)
  refine W.eq (g2 := F0 m 128 ls []) rfl ?_
  exact xr_vret F rfl hw d_F_project_128
set_option maxRecDepth 100000 in
set_option maxHeartbeats 4000000 in
theorem t_F_project_J40 (l : Launch) (Z : XZ) (u0 : PS) {K : PS → Prop} (x0 : Nat) (x1 : Int32) (x2 : Int32) (x3 : Int32) (x4 : Int32) (x6 : Int32) (x7 : Int32) (x8 : Nat) (s0 : Int64) (u : PS) (k : (p_F_project_J40 K x0 x1 x2 x3 x4 x6 x7 x8 s0 u)) : XN l Z i_F_project u0 (kV K) u 40 [(0, .ref x0), (1, .int x1), (2, .int x2), (3, .int x3), (4, .int x4), (6, .int x6), (7, .int x7), (8, .ref x8)] [.long s0] := by
  unfold p_F_project_J40 at k
  obtain ⟨_, u_24, ⟨r_25, rfl, k⟩, hM1⟩ := c_F_leftOut l Z ((x6 &&& (x4 ^^^ (-1 : Int32))) >>> ((6 : Int32) &&& 31)) u _ k
  obtain ⟨n2, k⟩ := k
  have hx4 : ∀ (v3 : PS), (p_F_project_J116 K x0 x1 x4 x6 v3) → XN l Z i_F_project u0 (kV K) v3 116 [(0, .ref x0), (1, .int x1), (4, .int x4), (6, .int x6)] [] := by
    intro v3 k
    obtain ⟨rv, v9, hK, hle_v3, w9⟩ := t_F_project_J116 l Z u0 x0 x1 x4 x6 v3 k
    refine ⟨rv, v9, hK, hle_v3, ?_⟩
    intro p e s m args below meth c A H locs ls F hw hl
    obtain ⟨⟨hx, hb, hml, hown, hts⟩, hr, hlocks, hmn⟩ := id F
    exact w9 p e s m args below meth c A H locs ls F hw (lv_sub hl [0, 1, 2, 3] rfl)
  obtain ⟨rv, v9, hK, hle_u_24, w9⟩ := t_F_project_L60 l Z u0 x0 x1 x2 x3 x4 x6 x7 x8 s0 r_25 hx4 n2 (0 : Int32) u_24 k
  have hle_u : x_le u v9 := (hM1.1).tr hle_u_24
  refine ⟨rv, v9, hK, hle_u, ?_⟩
  intro p e s m args below meth c A H locs ls F hw hl
  obtain ⟨⟨hx, hb, hml, hown, hts⟩, hr, hlocks, hmn⟩ := id F
  refine lv_lstore (lv' := [(9, .long s0), (0, .ref x0), (1, .int x1), (2, .int x2), (3, .int x3), (4, .int x4), (6, .int x6), (7, .int x7), (8, .ref x8)]) hx hb d_F_project_40 hl (by decide) rfl (fun ls hl => ?_)
  refine lv_iload hx hb d_F_project_42 (lv_at hl 6 rfl) ?_
  refine lv_iload hx hb d_F_project_44 (lv_at hl 5 rfl) ?_
  refine lv_iconst (v := (-1)) hx hb d_F_project_46 (by decide) ?_
  refine lv_ixor hx hb d_F_project_47 ?_
  refine lv_iand hx hb d_F_project_48 ?_
  refine lv_bipush (v := 6) hx hb d_F_project_49 (by decide) ?_
  refine lv_ishr hx hb d_F_project_51 ?_
  refine xr_cS (As := [.int ((x6 &&& (x4 ^^^ (-1 : Int32))) >>> ((6 : Int32) &&& 31))]) (rest := []) ⟨hx, hb, hml, hown, hts⟩ hw hM1 hle_u_24 (fun _ _ => ⟨callB_of 1 hts (xgood w_267) rfl rfl rfl (hts _ (xm w_2)) (hts _ (xm w_265)) ⟨by decide, by decide, by decide +kernel⟩ ⟨Nat.le_of_ble_eq_true rfl, Nat.le_of_ble_eq_true rfl⟩, (hts _ (xm w_266))⟩) rfl hl.1 rfl (Nat.le_of_ble_eq_true rfl) d_F_project_52 (fun H locs hw => ?_)
  refine W.eq (g2 := F0 m 55 ls [.int r_25]) rfl ?_
  refine lv_istore (lv' := [(11, .int r_25), (9, .long s0), (0, .ref x0), (1, .int x1), (2, .int x2), (3, .int x3), (4, .int x4), (6, .int x6), (7, .int x7), (8, .ref x8)]) hx hb d_F_project_55 hl (by decide) rfl (fun ls hl => ?_)
  refine lv_iconst (v := 0) hx hb d_F_project_57 (by decide) ?_
  refine lv_istore (lv' := [(12, .int 0), (11, .int r_25), (9, .long s0), (0, .ref x0), (1, .int x1), (2, .int x2), (3, .int x3), (4, .int x4), (6, .int x6), (7, .int x7), (8, .ref x8)]) hx hb d_F_project_58 hl (by decide) rfl (fun ls hl => ?_)
  exact w9 p e s m args below meth c A H locs ls F hw (lv_sub hl [3, 4, 5, 6, 7, 8, 9, 10, 2, 1, 0] rfl)
set_option maxRecDepth 100000 in
set_option maxHeartbeats 4000000 in
theorem c_F_project (l : Launch) (Z : XZ) (x0 : Nat) (x1 : Int32) (x2 : Int32) (x3 : Int32) (x4 : Int32) (x5 : Int32) (u : PS) (K : PS → Prop) (k : p_F_project x0 x1 x2 x3 x4 x5 u K) : ∃ (rv : Option Value) (u1 : PS), (kV K) rv u1 ∧ XMet l Z i_F_project [.ref x0, .int x1, .int x2, .int x3, .int x4, .int x5] u rv u1 := by
  refine x_met (by decide) rfl (Nat.le_of_ble_eq_true rfl) ?_
  show XN l Z i_F_project u (kV K) u 0 [(0, .ref x0), (1, .int x1), (2, .int x2), (3, .int x3), (4, .int x4), (5, .int x5)] []
  unfold p_F_project at k
  obtain ⟨z_19, h1, k⟩ := k
  obtain ⟨z_20, h2, k⟩ := k
  obtain ⟨z_21, h3, k⟩ := k
  obtain ⟨z_22, h4, k⟩ := k
  obtain ⟨y5, ey5⟩ : ∃ y9 : Int32, y9 = (z_20 ||| z_22) := ⟨_, rfl⟩
  have k := k y5 ey5
  obtain ⟨y6, ey6⟩ : ∃ y9 : Int32, y9 = (y5 &&& x4) := ⟨_, rfl⟩
  have k := k y6 ey6
  obtain ⟨z_23, h7, k⟩ := k
  by_cases hc8 : x5 = 0
  · have k := k.1 hc8
    obtain ⟨rv, v9, hK, hle_u, w9⟩ := t_F_project_J40 l Z u x0 x1 x2 x3 x4 y5 y6 z_23 (0 : Int64) u k
    refine ⟨rv, v9, hK, hle_u, ?_⟩
    intro p e s m args below meth c A H locs ls F hw hl
    obtain ⟨⟨hx, hb, hml, hown, hts⟩, hr, hlocks, hmn⟩ := id F
    refine lv_aload_n hx hb d_F_project_0 rfl (lv_at hl 0 rfl) ?_
    refine xr_get hx hb hts (xmu uws_F) hown hw h1 rfl (by decide) (hts _ (xm w_35)) (fun _ h9 => h9) d_F_project_1 ?_
    refine lv_iload_n hx hb d_F_project_4 rfl (lv_at hl 2 rfl) ?_
    refine xr_iald hx hb hw h2 d_F_project_5 ?_
    refine lv_aload_n hx hb d_F_project_6 rfl (lv_at hl 0 rfl) ?_
    refine xr_get hx hb hts (xmu uws_F) hown hw h3 rfl (by decide) (hts _ (xm w_35)) (fun _ h9 => h9) d_F_project_7 ?_
    refine lv_iload_n hx hb d_F_project_10 rfl (lv_at hl 3 rfl) ?_
    refine xr_iald hx hb hw h4 d_F_project_11 ?_
    refine lv_ior hx hb d_F_project_12 ?_
    refine lv_istore (lv' := [(6, .int y5), (0, .ref x0), (1, .int x1), (2, .int x2), (3, .int x3), (4, .int x4), (5, .int x5)]) hx hb d_F_project_13 hl (by decide) (by subst ey5; rfl) (fun ls hl => ?_)
    refine lv_iload hx hb d_F_project_15 (lv_at hl 0 rfl) ?_
    refine lv_iload hx hb d_F_project_17 (lv_at hl 5 rfl) ?_
    refine lv_iand hx hb d_F_project_19 ?_
    refine lv_istore (lv' := [(7, .int y6), (6, .int y5), (0, .ref x0), (1, .int x1), (2, .int x2), (3, .int x3), (4, .int x4), (5, .int x5)]) hx hb d_F_project_20 hl (by decide) (by subst ey6; rfl) (fun ls hl => ?_)
    refine lv_aload_n hx hb d_F_project_22 rfl (lv_at hl 2 rfl) ?_
    refine xr_get hx hb hts (xmu uws_F) hown hw h7 rfl (by decide) (hts _ (xm w_38)) (fun _ h9 => h9) d_F_project_23 ?_
    refine lv_astore (lv' := [(8, .ref z_23), (7, .int y6), (6, .int y5), (0, .ref x0), (1, .int x1), (2, .int x2), (3, .int x3), (4, .int x4), (5, .int x5)]) hx hb d_F_project_26 hl (by decide) rfl (fun ls hl => ?_)
    refine lv_iload hx hb d_F_project_28 (lv_at hl 8 rfl) ?_
    refine lv_if_eq (tgt := 39) hx hb d_F_project_30 (by decide) (fun _ => ?_) (fun c9 => absurd hc8 c9)
    refine lv_lconst (v := 0) hx hb d_F_project_39 (by decide) ?_
    exact w9 p e s m args below meth c A H locs ls F hw (lv_sub hl [3, 4, 5, 6, 7, 2, 1, 0] rfl)
  · have k := k.2 hc8
    obtain ⟨rv, v9, hK, hle_u, w9⟩ := t_F_project_J40 l Z u x0 x1 x2 x3 x4 y5 y6 z_23 (-1 : Int64) u k
    refine ⟨rv, v9, hK, hle_u, ?_⟩
    intro p e s m args below meth c A H locs ls F hw hl
    obtain ⟨⟨hx, hb, hml, hown, hts⟩, hr, hlocks, hmn⟩ := id F
    refine lv_aload_n hx hb d_F_project_0 rfl (lv_at hl 0 rfl) ?_
    refine xr_get hx hb hts (xmu uws_F) hown hw h1 rfl (by decide) (hts _ (xm w_35)) (fun _ h9 => h9) d_F_project_1 ?_
    refine lv_iload_n hx hb d_F_project_4 rfl (lv_at hl 2 rfl) ?_
    refine xr_iald hx hb hw h2 d_F_project_5 ?_
    refine lv_aload_n hx hb d_F_project_6 rfl (lv_at hl 0 rfl) ?_
    refine xr_get hx hb hts (xmu uws_F) hown hw h3 rfl (by decide) (hts _ (xm w_35)) (fun _ h9 => h9) d_F_project_7 ?_
    refine lv_iload_n hx hb d_F_project_10 rfl (lv_at hl 3 rfl) ?_
    refine xr_iald hx hb hw h4 d_F_project_11 ?_
    refine lv_ior hx hb d_F_project_12 ?_
    refine lv_istore (lv' := [(6, .int y5), (0, .ref x0), (1, .int x1), (2, .int x2), (3, .int x3), (4, .int x4), (5, .int x5)]) hx hb d_F_project_13 hl (by decide) (by subst ey5; rfl) (fun ls hl => ?_)
    refine lv_iload hx hb d_F_project_15 (lv_at hl 0 rfl) ?_
    refine lv_iload hx hb d_F_project_17 (lv_at hl 5 rfl) ?_
    refine lv_iand hx hb d_F_project_19 ?_
    refine lv_istore (lv' := [(7, .int y6), (6, .int y5), (0, .ref x0), (1, .int x1), (2, .int x2), (3, .int x3), (4, .int x4), (5, .int x5)]) hx hb d_F_project_20 hl (by decide) (by subst ey6; rfl) (fun ls hl => ?_)
    refine lv_aload_n hx hb d_F_project_22 rfl (lv_at hl 2 rfl) ?_
    refine xr_get hx hb hts (xmu uws_F) hown hw h7 rfl (by decide) (hts _ (xm w_38)) (fun _ h9 => h9) d_F_project_23 ?_
    refine lv_astore (lv' := [(8, .ref z_23), (7, .int y6), (6, .int y5), (0, .ref x0), (1, .int x1), (2, .int x2), (3, .int x3), (4, .int x4), (5, .int x5)]) hx hb d_F_project_26 hl (by decide) rfl (fun ls hl => ?_)
    refine lv_iload hx hb d_F_project_28 (lv_at hl 8 rfl) ?_
    refine lv_if_eq (tgt := 39) hx hb d_F_project_30 (by decide) (fun c9 => absurd c9 hc8) (fun _ => ?_)
    refine lv_ldc2 (v := (-1)) hx hb hown (hts _ (xm w_273)) d_F_project_33 ?_
    refine lv_goto (tgt := 40) hx hb d_F_project_36 (by decide) ?_
    exact w9 p e s m args below meth c A H locs ls F hw (lv_sub hl [3, 4, 5, 6, 7, 2, 1, 0] rfl)
set_option maxRecDepth 100000 in
set_option maxHeartbeats 4000000 in
theorem c_JL_bitCount (l : Launch) (Z : XZ) (x0 : Int64) (u : PS) (K : Int32 → PS → Prop) (k : p_JL_bitCount x0 u K) : ∃ (rv : Option Value) (u1 : PS), (kI K) rv u1 ∧ XMet l Z i_JL_bitCount [.long x0] u rv u1 := by
  refine x_met (by decide) rfl (Nat.le_of_ble_eq_true rfl) ?_
  show XN l Z i_JL_bitCount u (kI K) u 0 [(0, .long x0)] []
  unfold p_JL_bitCount at k
  obtain ⟨y1, ey1⟩ : ∃ y9 : Int64, y9 = (x0 - (((x0.toUInt64 >>> ((1 : Int32).toInt64.toUInt64 &&& Int64.toUInt64 63)).toInt64) &&& (6148914691236517205 : Int64))) := ⟨_, rfl⟩
  have k := k y1 ey1
  obtain ⟨y2, ey2⟩ : ∃ y9 : Int64, y9 = ((y1 &&& (3689348814741910323 : Int64)) + (((y1.toUInt64 >>> ((2 : Int32).toInt64.toUInt64 &&& Int64.toUInt64 63)).toInt64) &&& (3689348814741910323 : Int64))) := ⟨_, rfl⟩
  have k := k y2 ey2
  obtain ⟨y3, ey3⟩ : ∃ y9 : Int64, y9 = ((y2 + ((y2.toUInt64 >>> ((4 : Int32).toInt64.toUInt64 &&& Int64.toUInt64 63)).toInt64)) &&& (1085102592571150095 : Int64)) := ⟨_, rfl⟩
  have k := k y3 ey3
  obtain ⟨y4, ey4⟩ : ∃ y9 : Int64, y9 = (y3 + ((y3.toUInt64 >>> ((8 : Int32).toInt64.toUInt64 &&& Int64.toUInt64 63)).toInt64)) := ⟨_, rfl⟩
  have k := k y4 ey4
  obtain ⟨y5, ey5⟩ : ∃ y9 : Int64, y9 = (y4 + ((y4.toUInt64 >>> ((16 : Int32).toInt64.toUInt64 &&& Int64.toUInt64 63)).toInt64)) := ⟨_, rfl⟩
  have k := k y5 ey5
  obtain ⟨y6, ey6⟩ : ∃ y9 : Int64, y9 = (y5 + ((y5.toUInt64 >>> ((32 : Int32).toInt64.toUInt64 &&& Int64.toUInt64 63)).toInt64)) := ⟨_, rfl⟩
  have k := k y6 ey6
  have hle_u : x_le u u := x_le.rf u
  refine ⟨some (.int ((y6.toInt32) &&& (127 : Int32))), u, ⟨((y6.toInt32) &&& (127 : Int32)), rfl, k⟩, hle_u, ?_⟩
  intro p e s m args below meth c A H locs ls F hw hl
  obtain ⟨⟨hx, hb, hml, hown, hts⟩, hr, hlocks, hmn⟩ := id F
  refine lv_lload_n hx hb d_JL_bitCount_0 rfl (lv_at hl 0 rfl) ?_
  refine lv_lload_n hx hb d_JL_bitCount_1 rfl (lv_at hl 0 rfl) ?_
  refine lv_iconst (v := 1) hx hb d_JL_bitCount_2 (by decide) ?_
  refine lv_lushr hx hb d_JL_bitCount_3 rfl ?_
  refine lv_ldc2 (v := 6148914691236517205) hx hb hown (hts _ (xm w_788)) d_JL_bitCount_4 ?_
  refine lv_land hx hb d_JL_bitCount_7 ?_
  refine lv_lsub hx hb d_JL_bitCount_8 ?_
  refine lv_lstore_n (lv' := [(0, .long y1)]) hx hb d_JL_bitCount_9 rfl hl (by decide) (by subst ey1; rfl) (fun ls hl => ?_)
  refine lv_lload_n hx hb d_JL_bitCount_10 rfl (lv_at hl 0 rfl) ?_
  refine lv_ldc2 (v := 3689348814741910323) hx hb hown (hts _ (xm w_789)) d_JL_bitCount_11 ?_
  refine lv_land hx hb d_JL_bitCount_14 ?_
  refine lv_lload_n hx hb d_JL_bitCount_15 rfl (lv_at hl 0 rfl) ?_
  refine lv_iconst (v := 2) hx hb d_JL_bitCount_16 (by decide) ?_
  refine lv_lushr hx hb d_JL_bitCount_17 rfl ?_
  refine lv_ldc2 (v := 3689348814741910323) hx hb hown (hts _ (xm w_789)) d_JL_bitCount_18 ?_
  refine lv_land hx hb d_JL_bitCount_21 ?_
  refine lv_ladd hx hb d_JL_bitCount_22 ?_
  refine lv_lstore_n (lv' := [(0, .long y2)]) hx hb d_JL_bitCount_23 rfl hl (by decide) (by subst ey2; rfl) (fun ls hl => ?_)
  refine lv_lload_n hx hb d_JL_bitCount_24 rfl (lv_at hl 0 rfl) ?_
  refine lv_lload_n hx hb d_JL_bitCount_25 rfl (lv_at hl 0 rfl) ?_
  refine lv_iconst (v := 4) hx hb d_JL_bitCount_26 (by decide) ?_
  refine lv_lushr hx hb d_JL_bitCount_27 rfl ?_
  refine lv_ladd hx hb d_JL_bitCount_28 ?_
  refine lv_ldc2 (v := 1085102592571150095) hx hb hown (hts _ (xm w_790)) d_JL_bitCount_29 ?_
  refine lv_land hx hb d_JL_bitCount_32 ?_
  refine lv_lstore_n (lv' := [(0, .long y3)]) hx hb d_JL_bitCount_33 rfl hl (by decide) (by subst ey3; rfl) (fun ls hl => ?_)
  refine lv_lload_n hx hb d_JL_bitCount_34 rfl (lv_at hl 0 rfl) ?_
  refine lv_lload_n hx hb d_JL_bitCount_35 rfl (lv_at hl 0 rfl) ?_
  refine lv_bipush (v := 8) hx hb d_JL_bitCount_36 (by decide) ?_
  refine lv_lushr hx hb d_JL_bitCount_38 rfl ?_
  refine lv_ladd hx hb d_JL_bitCount_39 ?_
  refine lv_lstore_n (lv' := [(0, .long y4)]) hx hb d_JL_bitCount_40 rfl hl (by decide) (by subst ey4; rfl) (fun ls hl => ?_)
  refine lv_lload_n hx hb d_JL_bitCount_41 rfl (lv_at hl 0 rfl) ?_
  refine lv_lload_n hx hb d_JL_bitCount_42 rfl (lv_at hl 0 rfl) ?_
  refine lv_bipush (v := 16) hx hb d_JL_bitCount_43 (by decide) ?_
  refine lv_lushr hx hb d_JL_bitCount_45 rfl ?_
  refine lv_ladd hx hb d_JL_bitCount_46 ?_
  refine lv_lstore_n (lv' := [(0, .long y5)]) hx hb d_JL_bitCount_47 rfl hl (by decide) (by subst ey5; rfl) (fun ls hl => ?_)
  refine lv_lload_n hx hb d_JL_bitCount_48 rfl (lv_at hl 0 rfl) ?_
  refine lv_lload_n hx hb d_JL_bitCount_49 rfl (lv_at hl 0 rfl) ?_
  refine lv_bipush (v := 32) hx hb d_JL_bitCount_50 (by decide) ?_
  refine lv_lushr hx hb d_JL_bitCount_52 rfl ?_
  refine lv_ladd hx hb d_JL_bitCount_53 ?_
  refine lv_lstore_n (lv' := [(0, .long y6)]) hx hb d_JL_bitCount_54 rfl hl (by decide) (by subst ey6; rfl) (fun ls hl => ?_)
  refine lv_lload_n hx hb d_JL_bitCount_55 rfl (lv_at hl 0 rfl) ?_
  refine lv_l2i hx hb d_JL_bitCount_56 rfl ?_
  refine lv_bipush (v := 127) hx hb d_JL_bitCount_57 (by decide) ?_
  refine lv_iand hx hb d_JL_bitCount_59 ?_
  exact xr_iret F rfl hw d_JL_bitCount_60
