set_option maxRecDepth 100000 in
set_option maxHeartbeats 4000000 in
theorem t_N_triedFor_L44 (l : Launch) (Z : XZ) (u0 : PS) {Kv : Option Value → PS → Prop} {E69 : Int32 → PS → Prop} {E87 : PS → Prop} (x0 : Nat) (x2 : Int32) (x4 : Int32) (x5 : Int32) (hE69 : ∀ (y6 : Int32) (v : PS), E69 y6 v → XN l Z i_N_triedFor u0 Kv v 69 [(6, .int y6)] []) (hE87 : ∀ (v : PS), E87 v → XN l Z i_N_triedFor u0 Kv v 87 [(0, .ref x0), (2, .int x2), (4, .int x4), (5, .int x5)] []) : ∀ (n : Nat) (x6 : Int32) (x7 : Int32) (u : PS), p_N_triedFor_L44 x0 x2 x4 x5 E69 E87 n x6 x7 u → XN l Z i_N_triedFor u0 Kv u 44 [(0, .ref x0), (2, .int x2), (4, .int x4), (5, .int x5), (6, .int x6), (7, .int x7)] [] := by
  intro n
  induction n with
  | zero => intro x6 x7 u k; exact False.elim k
  | succ n ih =>
    intro x6 x7 u k
    rw [p_N_triedFor_L44] at k
    by_cases hc1 : x6 = 0
    · have k := k.1 hc1
      obtain ⟨rv, v9, hK, hle_u, w9⟩ := hE87 u k
      refine ⟨rv, v9, hK, hle_u, ?_⟩
      intro p e s m args below meth c A H locs ls F hw hl
      obtain ⟨⟨hx, hb, hml, hown, hts⟩, hr, hlocks, hmn⟩ := id F
      refine lv_iload hx hb d_N_triedFor_44 (lv_at hl 4 rfl) ?_
      refine lv_if_eq (tgt := 87) hx hb d_N_triedFor_46 (by decide) (fun _ => ?_) (fun c9 => absurd hc1 c9)
      exact w9 p e s m args below meth c A H locs ls F hw (lv_sub hl [0, 1, 2, 3] rfl)
    · have k := k.2 hc1
      by_cases hc2 : 16384 ≤ x7
      · have k := k.1 hc2
        obtain ⟨rv, v9, hK, hle_u, w9⟩ := hE87 u k
        refine ⟨rv, v9, hK, hle_u, ?_⟩
        intro p e s m args below meth c A H locs ls F hw hl
        obtain ⟨⟨hx, hb, hml, hown, hts⟩, hr, hlocks, hmn⟩ := id F
        refine lv_iload hx hb d_N_triedFor_44 (lv_at hl 4 rfl) ?_
        refine lv_if_eq (tgt := 87) hx hb d_N_triedFor_46 (by decide) (fun c9 => absurd c9 hc1) (fun _ => ?_)
        refine lv_iload hx hb d_N_triedFor_49 (lv_at hl 5 rfl) ?_
        refine lv_sipush (v := 16384) hx hb d_N_triedFor_51 (by decide) ?_
        refine lv_icmp_ge (tgt := 87) hx hb d_N_triedFor_54 (by decide) (fun _ => ?_) (fun c9 => absurd hc2 c9)
        exact w9 p e s m args below meth c A H locs ls F hw (lv_sub hl [0, 1, 2, 3] rfl)
      · have k := k.2 hc2
        obtain ⟨z_31, h3, k⟩ := k
        obtain ⟨z_32, h4, k⟩ := k
        by_cases hc5 : z_32 = x4
        · have k := k.2 hc5
          obtain ⟨rv, v9, hK, hle_u, w9⟩ := hE69 x6 u k
          refine ⟨rv, v9, hK, hle_u, ?_⟩
          intro p e s m args below meth c A H locs ls F hw hl
          obtain ⟨⟨hx, hb, hml, hown, hts⟩, hr, hlocks, hmn⟩ := id F
          refine lv_iload hx hb d_N_triedFor_44 (lv_at hl 4 rfl) ?_
          refine lv_if_eq (tgt := 87) hx hb d_N_triedFor_46 (by decide) (fun c9 => absurd c9 hc1) (fun _ => ?_)
          refine lv_iload hx hb d_N_triedFor_49 (lv_at hl 5 rfl) ?_
          refine lv_sipush (v := 16384) hx hb d_N_triedFor_51 (by decide) ?_
          refine lv_icmp_ge (tgt := 87) hx hb d_N_triedFor_54 (by decide) (fun c9 => absurd c9 hc2) (fun _ => ?_)
          refine lv_aload_n hx hb d_N_triedFor_57 rfl (lv_at hl 0 rfl) ?_
          refine xr_get hx hb hts (xmu uws_N) hown hw h3 rfl (by decide) (hts _ (xm w_72)) (fun _ h9 => h9) d_N_triedFor_58 ?_
          refine lv_iload hx hb d_N_triedFor_61 (lv_at hl 4 rfl) ?_
          refine xr_iald hx hb hw h4 d_N_triedFor_63 ?_
          refine lv_iload hx hb d_N_triedFor_64 (lv_at hl 2 rfl) ?_
          refine lv_icmp_ne (tgt := 72) hx hb d_N_triedFor_66 (by decide) (fun c9 => absurd hc5 c9) (fun _ => ?_)
          exact w9 p e s m args below meth c A H locs ls F hw (lv_sub hl [4] rfl)
        · have k := k.1 hc5
          obtain ⟨z_33, h6, k⟩ := k
          obtain ⟨z_34, h7, k⟩ := k
          obtain ⟨y8, ey8⟩ : ∃ y9 : Int32, y9 = x7 + 1 := ⟨_, rfl⟩
          have k := k y8 ey8
          obtain ⟨rv, v9, hK, hle_u, w9⟩ := ih z_34 y8 u k
          refine ⟨rv, v9, hK, hle_u, ?_⟩
          intro p e s m args below meth c A H locs ls F hw hl
          obtain ⟨⟨hx, hb, hml, hown, hts⟩, hr, hlocks, hmn⟩ := id F
          refine lv_iload hx hb d_N_triedFor_44 (lv_at hl 4 rfl) ?_
          refine lv_if_eq (tgt := 87) hx hb d_N_triedFor_46 (by decide) (fun c9 => absurd c9 hc1) (fun _ => ?_)
          refine lv_iload hx hb d_N_triedFor_49 (lv_at hl 5 rfl) ?_
          refine lv_sipush (v := 16384) hx hb d_N_triedFor_51 (by decide) ?_
          refine lv_icmp_ge (tgt := 87) hx hb d_N_triedFor_54 (by decide) (fun c9 => absurd c9 hc2) (fun _ => ?_)
          refine lv_aload_n hx hb d_N_triedFor_57 rfl (lv_at hl 0 rfl) ?_
          refine xr_get hx hb hts (xmu uws_N) hown hw h3 rfl (by decide) (hts _ (xm w_72)) (fun _ h9 => h9) d_N_triedFor_58 ?_
          refine lv_iload hx hb d_N_triedFor_61 (lv_at hl 4 rfl) ?_
          refine xr_iald hx hb hw h4 d_N_triedFor_63 ?_
          refine lv_iload hx hb d_N_triedFor_64 (lv_at hl 2 rfl) ?_
          refine lv_icmp_ne (tgt := 72) hx hb d_N_triedFor_66 (by decide) (fun _ => ?_) (fun c9 => absurd c9 hc5)
          refine lv_aload_n hx hb d_N_triedFor_72 rfl (lv_at hl 0 rfl) ?_
          refine xr_get hx hb hts (xmu uws_N) hown hw h6 rfl (by decide) (hts _ (xm w_81)) (fun _ h9 => h9) d_N_triedFor_73 ?_
          refine lv_iload hx hb d_N_triedFor_76 (lv_at hl 4 rfl) ?_
          refine xr_iald hx hb hw h7 d_N_triedFor_78 ?_
          refine lv_istore (lv' := [(6, .int z_34), (0, .ref x0), (2, .int x2), (4, .int x4), (5, .int x5), (7, .int x7)]) hx hb d_N_triedFor_79 hl (by decide) rfl (fun ls hl => ?_)
          refine lv_iinc (v := y8) (lv' := [(7, .int y8), (6, .int z_34), (0, .ref x0), (2, .int x2), (4, .int x4), (5, .int x5)]) hx hb d_N_triedFor_81 hl (k := 5) rfl (by subst ey8; rfl) (by decide) rfl (fun ls hl => ?_)
          refine lv_goto (tgt := 44) hx hb d_N_triedFor_84 (by decide) ?_
          exact w9 p e s m args below meth c A H locs ls F hw (lv_sub hl [2, 3, 4, 5, 1, 0] rfl)
set_option maxRecDepth 100000 in
set_option maxHeartbeats 4000000 in
theorem t_N_triedFor_J87 (l : Launch) (Z : XZ) (u0 : PS) {K : Int32 → PS → Prop} (x0 : Nat) (x2 : Int32) (x4 : Int32) (x5 : Int32) (u : PS) (k : (p_N_triedFor_J87 K x0 x2 x4 x5 u)) : XN l Z i_N_triedFor u0 (kI K) u 87 [(0, .ref x0), (2, .int x2), (4, .int x4), (5, .int x5)] [] := by
  unfold p_N_triedFor_J87 at k
  obtain ⟨z_35, h1, k⟩ := k
  obtain ⟨z_36, h2, k⟩ := k
  obtain ⟨z_37, h3, k⟩ := k
  by_cases hc4 : z_35 < z_37
  · have k := k.1 hc4
    obtain ⟨z_38, h5, k⟩ := k
    obtain ⟨u_39, h6, k⟩ := k
    obtain ⟨z_40, h7, k⟩ := k
    obtain ⟨z_41, h8, k⟩ := k
    obtain ⟨z_42, h9, k⟩ := k
    obtain ⟨u_43, h10, k⟩ := k
    obtain ⟨z_44, h11, k⟩ := k
    obtain ⟨u_45, h12, k⟩ := k
    obtain ⟨z_46, h13, k⟩ := k
    obtain ⟨u_47, h14, k⟩ := k
    have hle_u_47 : x_le u_47 u_47 := x_le.rf u_47
    have hle_u_45 : x_le u_45 u_47 := (h14.le).tr hle_u_47
    have hle_u_43 : x_le u_43 u_47 := (h12.le).tr hle_u_45
    have hle_u_39 : x_le u_39 u_47 := (h10.le).tr hle_u_43
    have hle_u : x_le u u_47 := (h6.le).tr hle_u_39
    refine ⟨some (.int z_35), u_47, ⟨z_35, rfl, k⟩, hle_u, ?_⟩
    intro p e s m args below meth c A H locs ls F hw hl
    obtain ⟨⟨hx, hb, hml, hown, hts⟩, hr, hlocks, hmn⟩ := id F
    refine lv_aload_n hx hb d_N_triedFor_87 rfl (lv_at hl 0 rfl) ?_
    refine xr_get hx hb hts (xmu uws_N) hown hw h1 rfl (by decide) (hts _ (xm w_85)) (fun _ h9 => h9) d_N_triedFor_88 ?_
    refine lv_istore (lv' := [(6, .int z_35), (0, .ref x0), (2, .int x2), (4, .int x4), (5, .int x5)]) hx hb d_N_triedFor_91 hl (by decide) rfl (fun ls hl => ?_)
    refine lv_iload hx hb d_N_triedFor_93 (lv_at hl 0 rfl) ?_
    refine lv_aload_n hx hb d_N_triedFor_95 rfl (lv_at hl 1 rfl) ?_
    refine xr_get hx hb hts (xmu uws_N) hown hw h2 rfl (by decide) (hts _ (xm w_72)) (fun _ h9 => h9) d_N_triedFor_96 ?_
    refine xr_alen hx hb hw rfl h3 d_N_triedFor_99 ?_
    refine lv_icmp_lt (tgt := 105) hx hb d_N_triedFor_100 (by decide) (fun _ => ?_) (fun c9 => absurd hc4 c9)
    refine lv_aload_n hx hb d_N_triedFor_105 rfl (lv_at hl 1 rfl) ?_
    refine xr_get hx hb hts (xmu uws_N) hown hw h5 rfl (by decide) (hts _ (xm w_72)) (fun _ h9 => h9) d_N_triedFor_106 ?_
    refine lv_iload hx hb d_N_triedFor_109 (lv_at hl 0 rfl) ?_
    refine lv_iload hx hb d_N_triedFor_111 (lv_at hl 3 rfl) ?_
    refine xr_iast hx hb hw h6 d_N_triedFor_113 (fun H locs hw => ?_)
    refine lv_aload_n hx hb d_N_triedFor_114 rfl (lv_at hl 1 rfl) ?_
    refine xr_get hx hb hts (xmu uws_N) hown hw h7 rfl (by decide) (hts _ (xm w_81)) (fun _ h9 => h9) d_N_triedFor_115 ?_
    refine lv_iload hx hb d_N_triedFor_118 (lv_at hl 0 rfl) ?_
    refine lv_aload_n hx hb d_N_triedFor_120 rfl (lv_at hl 1 rfl) ?_
    refine xr_get hx hb hts (xmu uws_N) hown hw h8 rfl (by decide) (hts _ (xm w_82)) (fun _ h9 => h9) d_N_triedFor_121 ?_
    refine lv_iload hx hb d_N_triedFor_124 (lv_at hl 4 rfl) ?_
    refine xr_iald hx hb hw h9 d_N_triedFor_126 ?_
    refine xr_iast hx hb hw h10 d_N_triedFor_127 (fun H locs hw => ?_)
    refine lv_aload_n hx hb d_N_triedFor_128 rfl (lv_at hl 1 rfl) ?_
    refine xr_get hx hb hts (xmu uws_N) hown hw h11 rfl (by decide) (hts _ (xm w_82)) (fun _ h9 => h9) d_N_triedFor_129 ?_
    refine lv_iload hx hb d_N_triedFor_132 (lv_at hl 4 rfl) ?_
    refine lv_iload hx hb d_N_triedFor_134 (lv_at hl 0 rfl) ?_
    refine xr_iast hx hb hw h12 d_N_triedFor_136 (fun H locs hw => ?_)
    refine lv_aload_n hx hb d_N_triedFor_137 rfl (lv_at hl 1 rfl) ?_
    refine lv_dup hx hb d_N_triedFor_138 rfl ?_
    refine xr_get hx hb hts (xmu uws_N) hown hw h13 rfl (by decide) (hts _ (xm w_85)) (fun _ h9 => h9) d_N_triedFor_139 ?_
    refine lv_iconst (v := 1) hx hb d_N_triedFor_142 (by decide) ?_
    refine lv_iadd hx hb d_N_triedFor_143 ?_
    refine xr_put (ty := .int) hx hb hts (xmu uws_N) tyc_N tyc_N_ok nmc_N hown hw h14 rfl (by decide) (hts _ (xm w_85)) (fun _ h9 => h9) rfl (by decide +kernel) rfl rfl d_N_triedFor_144 (fun H locs hw => ?_)
    refine lv_iload hx hb d_N_triedFor_147 (lv_at hl 0 rfl) ?_
    exact xr_iret F rfl hw d_N_triedFor_149
  · have k := k.2 hc4
    have hle_u : x_le u u := x_le.rf u
    refine ⟨some (.int x2), u, ⟨x2, rfl, k⟩, hle_u, ?_⟩
    intro p e s m args below meth c A H locs ls F hw hl
    obtain ⟨⟨hx, hb, hml, hown, hts⟩, hr, hlocks, hmn⟩ := id F
    refine lv_aload_n hx hb d_N_triedFor_87 rfl (lv_at hl 0 rfl) ?_
    refine xr_get hx hb hts (xmu uws_N) hown hw h1 rfl (by decide) (hts _ (xm w_85)) (fun _ h9 => h9) d_N_triedFor_88 ?_
    refine lv_istore (lv' := [(6, .int z_35), (0, .ref x0), (2, .int x2), (4, .int x4), (5, .int x5)]) hx hb d_N_triedFor_91 hl (by decide) rfl (fun ls hl => ?_)
    refine lv_iload hx hb d_N_triedFor_93 (lv_at hl 0 rfl) ?_
    refine lv_aload_n hx hb d_N_triedFor_95 rfl (lv_at hl 1 rfl) ?_
    refine xr_get hx hb hts (xmu uws_N) hown hw h2 rfl (by decide) (hts _ (xm w_72)) (fun _ h9 => h9) d_N_triedFor_96 ?_
    refine xr_alen hx hb hw rfl h3 d_N_triedFor_99 ?_
    refine lv_icmp_lt (tgt := 105) hx hb d_N_triedFor_100 (by decide) (fun c9 => absurd c9 hc4) (fun _ => ?_)
    refine lv_iload_n hx hb d_N_triedFor_103 rfl (lv_at hl 2 rfl) ?_
    exact xr_iret F rfl hw d_N_triedFor_104
set_option maxRecDepth 100000 in
set_option maxHeartbeats 4000000 in
theorem c_N_triedFor (l : Launch) (Z : XZ) (x0 : Nat) (x1 : Int32) (x2 : Int32) (x3 : Int32) (u : PS) (K : Int32 → PS → Prop) (k : p_N_triedFor x0 x1 x2 x3 u K) : ∃ (rv : Option Value) (u1 : PS), (kI K) rv u1 ∧ XMet l Z i_N_triedFor [.ref x0, .int x1, .int x2, .int x3] u rv u1 := by
  refine x_met (by decide) rfl (Nat.le_of_ble_eq_true rfl) ?_
  show XN l Z i_N_triedFor u (kI K) u 0 [(0, .ref x0), (1, .int x1), (2, .int x2), (3, .int x3)] []
  unfold p_N_triedFor at k
  by_cases hc1 : x2 = x3
  · have k := k.2 hc1
    have hle_u : x_le u u := x_le.rf u
    refine ⟨some (.int x2), u, ⟨x2, rfl, k⟩, hle_u, ?_⟩
    intro p e s m args below meth c A H locs ls F hw hl
    obtain ⟨⟨hx, hb, hml, hown, hts⟩, hr, hlocks, hmn⟩ := id F
    refine lv_iload_n hx hb d_N_triedFor_0 rfl (lv_at hl 2 rfl) ?_
    refine lv_iload_n hx hb d_N_triedFor_1 rfl (lv_at hl 3 rfl) ?_
    refine lv_icmp_ne (tgt := 7) hx hb d_N_triedFor_2 (by decide) (fun c9 => absurd hc1 c9) (fun _ => ?_)
    refine lv_iload_n hx hb d_N_triedFor_5 rfl (lv_at hl 2 rfl) ?_
    exact xr_iret F rfl hw d_N_triedFor_6
  · have k := k.1 hc1
    obtain ⟨y2, ey2⟩ : ∃ y9 : Int32, y9 = (((x1 <<< ((28 : Int32) &&& 31)) ||| (x2 <<< ((14 : Int32) &&& 31))) ||| x3) := ⟨_, rfl⟩
    have k := k y2 ey2
    obtain ⟨z_28, h3, k⟩ := k
    obtain ⟨y4, ey4⟩ : ∃ y9 : Int32, y9 = (((y2 * (-1640531535 : Int32)).toUInt32 >>> (z_28.toUInt32 &&& Int32.toUInt32 31)).toInt32) := ⟨_, rfl⟩
    have k := k y4 ey4
    obtain ⟨z_29, h5, k⟩ := k
    obtain ⟨z_30, h6, k⟩ := k
    obtain ⟨n7, k⟩ := k
    have hx10 : ∀ (y6_8 : Int32) (v9 : PS), (K y6_8 v9) → XN l Z i_N_triedFor u (kI K) v9 69 [(6, .int y6_8)] [] := by
      intro y6_8 v9 k
      have hle_v9 : x_le v9 v9 := x_le.rf v9
      refine ⟨some (.int y6_8), v9, ⟨y6_8, rfl, k⟩, hle_v9, ?_⟩
      intro p e s m args below meth c A H locs ls F hw hl
      obtain ⟨⟨hx, hb, hml, hown, hts⟩, hr, hlocks, hmn⟩ := id F
      refine lv_iload hx hb d_N_triedFor_69 (lv_at hl 0 rfl) ?_
      exact xr_iret F rfl hw d_N_triedFor_71
    have hx12 : ∀ (v11 : PS), (p_N_triedFor_J87 K x0 x2 y2 y4 v11) → XN l Z i_N_triedFor u (kI K) v11 87 [(0, .ref x0), (2, .int x2), (4, .int y2), (5, .int y4)] [] := by
      intro v11 k
      obtain ⟨rv, v9, hK, hle_v11, w9⟩ := t_N_triedFor_J87 l Z u x0 x2 y2 y4 v11 k
      refine ⟨rv, v9, hK, hle_v11, ?_⟩
      intro p e s m args below meth c A H locs ls F hw hl
      obtain ⟨⟨hx, hb, hml, hown, hts⟩, hr, hlocks, hmn⟩ := id F
      exact w9 p e s m args below meth c A H locs ls F hw (lv_sub hl [0, 1, 2, 3] rfl)
    obtain ⟨rv, v9, hK, hle_u, w9⟩ := t_N_triedFor_L44 l Z u x0 x2 y2 y4 hx10 hx12 n7 z_30 (0 : Int32) u k
    refine ⟨rv, v9, hK, hle_u, ?_⟩
    intro p e s m args below meth c A H locs ls F hw hl
    obtain ⟨⟨hx, hb, hml, hown, hts⟩, hr, hlocks, hmn⟩ := id F
    refine lv_iload_n hx hb d_N_triedFor_0 rfl (lv_at hl 2 rfl) ?_
    refine lv_iload_n hx hb d_N_triedFor_1 rfl (lv_at hl 3 rfl) ?_
    refine lv_icmp_ne (tgt := 7) hx hb d_N_triedFor_2 (by decide) (fun _ => ?_) (fun c9 => absurd c9 hc1)
    refine lv_iload_n hx hb d_N_triedFor_7 rfl (lv_at hl 1 rfl) ?_
    refine lv_bipush (v := 28) hx hb d_N_triedFor_8 (by decide) ?_
    refine lv_ishl hx hb d_N_triedFor_10 ?_
    refine lv_iload_n hx hb d_N_triedFor_11 rfl (lv_at hl 2 rfl) ?_
    refine lv_bipush (v := 14) hx hb d_N_triedFor_12 (by decide) ?_
    refine lv_ishl hx hb d_N_triedFor_14 ?_
    refine lv_ior hx hb d_N_triedFor_15 ?_
    refine lv_iload_n hx hb d_N_triedFor_16 rfl (lv_at hl 3 rfl) ?_
    refine lv_ior hx hb d_N_triedFor_17 ?_
    refine lv_istore (lv' := [(4, .int y2), (0, .ref x0), (1, .int x1), (2, .int x2), (3, .int x3)]) hx hb d_N_triedFor_18 hl (by decide) (by subst ey2; rfl) (fun ls hl => ?_)
    refine lv_iload hx hb d_N_triedFor_20 (lv_at hl 0 rfl) ?_
    refine lv_ldc (v := (-1640531535)) hx hb hown (hts _ (xm w_312)) d_N_triedFor_22 ?_
    refine lv_imul hx hb d_N_triedFor_24 ?_
    refine lv_aload_n hx hb d_N_triedFor_25 rfl (lv_at hl 1 rfl) ?_
    refine xr_get hx hb hts (xmu uws_N) hown hw h3 rfl (by decide) (hts _ (xm w_83)) (fun _ h9 => h9) d_N_triedFor_26 ?_
    refine lv_iushr hx hb d_N_triedFor_29 rfl ?_
    refine lv_istore (lv' := [(5, .int y4), (4, .int y2), (0, .ref x0), (1, .int x1), (2, .int x2), (3, .int x3)]) hx hb d_N_triedFor_30 hl (by decide) (by subst ey4; rfl) (fun ls hl => ?_)
    refine lv_aload_n hx hb d_N_triedFor_32 rfl (lv_at hl 2 rfl) ?_
    refine xr_get hx hb hts (xmu uws_N) hown hw h5 rfl (by decide) (hts _ (xm w_82)) (fun _ h9 => h9) d_N_triedFor_33 ?_
    refine lv_iload hx hb d_N_triedFor_36 (lv_at hl 0 rfl) ?_
    refine xr_iald hx hb hw h6 d_N_triedFor_38 ?_
    refine lv_istore (lv' := [(6, .int z_30), (5, .int y4), (4, .int y2), (0, .ref x0), (1, .int x1), (2, .int x2), (3, .int x3)]) hx hb d_N_triedFor_39 hl (by decide) rfl (fun ls hl => ?_)
    refine lv_iconst (v := 0) hx hb d_N_triedFor_41 (by decide) ?_
    refine lv_istore (lv' := [(7, .int 0), (6, .int z_30), (5, .int y4), (4, .int y2), (0, .ref x0), (1, .int x1), (2, .int x2), (3, .int x3)]) hx hb d_N_triedFor_42 hl (by decide) rfl (fun ls hl => ?_)
    exact w9 p e s m args below meth c A H locs ls F hw (lv_sub hl [4, 6, 3, 2, 1, 0] rfl)
set_option maxRecDepth 100000 in
set_option maxHeartbeats 4000000 in
theorem t_N_forgetTried_L7 (l : Launch) (Z : XZ) (u0 : PS) {Kv : Option Value → PS → Prop} {E43 : PS → Prop} (x0 : Nat) (x1 : Int32) (hE43 : ∀ (v : PS), E43 v → XN l Z i_N_forgetTried u0 Kv v 43 [(0, .ref x0), (1, .int x1)] []) : ∀ (n : Nat) (x2 : Int32) (u : PS), p_N_forgetTried_L7 x0 x1 E43 n x2 u → XN l Z i_N_forgetTried u0 Kv u 7 [(0, .ref x0), (1, .int x1), (2, .int x2)] [] := by
  intro n
  induction n with
  | zero => intro x2 u k; exact False.elim k
  | succ n ih =>
    intro x2 u k
    rw [p_N_forgetTried_L7] at k
    by_cases hc1 : x2 < x1
    · have k := k.1 hc1
      obtain ⟨rv, v9, hK, hle_u, w9⟩ := hE43 u k
      refine ⟨rv, v9, hK, hle_u, ?_⟩
      intro p e s m args below meth c A H locs ls F hw hl
      obtain ⟨⟨hx, hb, hml, hown, hts⟩, hr, hlocks, hmn⟩ := id F
      refine lv_iload_n hx hb d_N_forgetTried_7 rfl (lv_at hl 2 rfl) ?_
      refine lv_iload_n hx hb d_N_forgetTried_8 rfl (lv_at hl 1 rfl) ?_
      refine lv_icmp_lt (tgt := 43) hx hb d_N_forgetTried_9 (by decide) (fun _ => ?_) (fun c9 => absurd hc1 c9)
      exact w9 p e s m args below meth c A H locs ls F hw (lv_sub hl [0, 1] rfl)
    · have k := k.2 hc1
      obtain ⟨z_15, h2, k⟩ := k
      obtain ⟨z_16, h3, k⟩ := k
      obtain ⟨z_17, h4, k⟩ := k
      obtain ⟨z_18, h5, k⟩ := k
      obtain ⟨z_19, h6, k⟩ := k
      obtain ⟨z_20, h7, k⟩ := k
      obtain ⟨u_21, h8, k⟩ := k
      obtain ⟨y9, ey9⟩ : ∃ y9 : Int32, y9 = x2 + (-1) := ⟨_, rfl⟩
      have k := k y9 ey9
      obtain ⟨rv, v9, hK, hle_u_21, w9⟩ := ih y9 u_21 k
      have hle_u : x_le u v9 := (h8.le).tr hle_u_21
      refine ⟨rv, v9, hK, hle_u, ?_⟩
      intro p e s m args below meth c A H locs ls F hw hl
      obtain ⟨⟨hx, hb, hml, hown, hts⟩, hr, hlocks, hmn⟩ := id F
      refine lv_iload_n hx hb d_N_forgetTried_7 rfl (lv_at hl 2 rfl) ?_
      refine lv_iload_n hx hb d_N_forgetTried_8 rfl (lv_at hl 1 rfl) ?_
      refine lv_icmp_lt (tgt := 43) hx hb d_N_forgetTried_9 (by decide) (fun c9 => absurd c9 hc1) (fun _ => ?_)
      refine lv_aload_n hx hb d_N_forgetTried_12 rfl (lv_at hl 0 rfl) ?_
      refine xr_get hx hb hts (xmu uws_N) hown hw h2 rfl (by decide) (hts _ (xm w_82)) (fun _ h9 => h9) d_N_forgetTried_13 ?_
      refine lv_aload_n hx hb d_N_forgetTried_16 rfl (lv_at hl 0 rfl) ?_
      refine xr_get hx hb hts (xmu uws_N) hown hw h3 rfl (by decide) (hts _ (xm w_72)) (fun _ h9 => h9) d_N_forgetTried_17 ?_
      refine lv_iload_n hx hb d_N_forgetTried_20 rfl (lv_at hl 2 rfl) ?_
      refine xr_iald hx hb hw h4 d_N_forgetTried_21 ?_
      refine lv_ldc (v := (-1640531535)) hx hb hown (hts _ (xm w_312)) d_N_forgetTried_22 ?_
      refine lv_imul hx hb d_N_forgetTried_24 ?_
      refine lv_aload_n hx hb d_N_forgetTried_25 rfl (lv_at hl 0 rfl) ?_
      refine xr_get hx hb hts (xmu uws_N) hown hw h5 rfl (by decide) (hts _ (xm w_83)) (fun _ h9 => h9) d_N_forgetTried_26 ?_
      refine lv_iushr hx hb d_N_forgetTried_29 rfl ?_
      refine lv_aload_n hx hb d_N_forgetTried_30 rfl (lv_at hl 0 rfl) ?_
      refine xr_get hx hb hts (xmu uws_N) hown hw h6 rfl (by decide) (hts _ (xm w_81)) (fun _ h9 => h9) d_N_forgetTried_31 ?_
      refine lv_iload_n hx hb d_N_forgetTried_34 rfl (lv_at hl 2 rfl) ?_
      refine xr_iald hx hb hw h7 d_N_forgetTried_35 ?_
      refine xr_iast hx hb hw h8 d_N_forgetTried_36 (fun H locs hw => ?_)
      refine lv_iinc (v := y9) (lv' := [(2, .int y9), (0, .ref x0), (1, .int x1)]) hx hb d_N_forgetTried_37 hl (k := 2) rfl (by subst ey9; rfl) (by decide) rfl (fun ls hl => ?_)
      refine lv_goto (tgt := 7) hx hb d_N_forgetTried_40 (by decide) ?_
      exact w9 p e s m args below meth c A H locs ls F hw (lv_sub hl [1, 2, 0] rfl)
set_option maxRecDepth 100000 in
set_option maxHeartbeats 4000000 in
theorem t_N_forgetTried_J43 (l : Launch) (Z : XZ) (u0 : PS) {K : PS → Prop} (x0 : Nat) (x1 : Int32) (u : PS) (k : (p_N_forgetTried_J43 K x0 x1 u)) : XN l Z i_N_forgetTried u0 (kV K) u 43 [(0, .ref x0), (1, .int x1)] [] := by
  unfold p_N_forgetTried_J43 at k
  obtain ⟨u_22, h1, k⟩ := k
  have hle_u_22 : x_le u_22 u_22 := x_le.rf u_22
  have hle_u : x_le u u_22 := (h1.le).tr hle_u_22
  refine ⟨none, u_22, ⟨rfl, k⟩, hle_u, ?_⟩
  intro p e s m args below meth c A H locs ls F hw hl
  obtain ⟨⟨hx, hb, hml, hown, hts⟩, hr, hlocks, hmn⟩ := id F
  refine lv_aload_n hx hb d_N_forgetTried_43 rfl (lv_at hl 0 rfl) ?_
  refine lv_iload_n hx hb d_N_forgetTried_44 rfl (lv_at hl 1 rfl) ?_
  refine xr_put (ty := .int) hx hb hts (xmu uws_N) tyc_N tyc_N_ok nmc_N hown hw h1 rfl (by decide) (hts _ (xm w_85)) (fun _ h9 => h9) rfl (by decide +kernel) rfl rfl d_N_forgetTried_45 (fun H locs hw => ?_)
  exact xr_vret F rfl hw d_N_forgetTried_48
set_option maxRecDepth 100000 in
set_option maxHeartbeats 4000000 in
theorem c_N_forgetTried (l : Launch) (Z : XZ) (x0 : Nat) (x1 : Int32) (u : PS) (K : PS → Prop) (k : p_N_forgetTried x0 x1 u K) : ∃ (rv : Option Value) (u1 : PS), (kV K) rv u1 ∧ XMet l Z i_N_forgetTried [.ref x0, .int x1] u rv u1 := by
  refine x_met (by decide) rfl (Nat.le_of_ble_eq_true rfl) ?_
  show XN l Z i_N_forgetTried u (kV K) u 0 [(0, .ref x0), (1, .int x1)] []
  unfold p_N_forgetTried at k
  obtain ⟨z_14, h1, k⟩ := k
  obtain ⟨y2, ey2⟩ : ∃ y9 : Int32, y9 = (z_14 - (1 : Int32)) := ⟨_, rfl⟩
  have k := k y2 ey2
  obtain ⟨n3, k⟩ := k
  have hx5 : ∀ (v4 : PS), (p_N_forgetTried_J43 K x0 x1 v4) → XN l Z i_N_forgetTried u (kV K) v4 43 [(0, .ref x0), (1, .int x1)] [] := by
    intro v4 k
    obtain ⟨rv, v9, hK, hle_v4, w9⟩ := t_N_forgetTried_J43 l Z u x0 x1 v4 k
    refine ⟨rv, v9, hK, hle_v4, ?_⟩
    intro p e s m args below meth c A H locs ls F hw hl
    obtain ⟨⟨hx, hb, hml, hown, hts⟩, hr, hlocks, hmn⟩ := id F
    exact w9 p e s m args below meth c A H locs ls F hw (lv_sub hl [0, 1] rfl)
  obtain ⟨rv, v9, hK, hle_u, w9⟩ := t_N_forgetTried_L7 l Z u x0 x1 hx5 n3 y2 u k
  refine ⟨rv, v9, hK, hle_u, ?_⟩
  intro p e s m args below meth c A H locs ls F hw hl
  obtain ⟨⟨hx, hb, hml, hown, hts⟩, hr, hlocks, hmn⟩ := id F
  refine lv_aload_n hx hb d_N_forgetTried_0 rfl (lv_at hl 0 rfl) ?_
  refine xr_get hx hb hts (xmu uws_N) hown hw h1 rfl (by decide) (hts _ (xm w_85)) (fun _ h9 => h9) d_N_forgetTried_1 ?_
  refine lv_iconst (v := 1) hx hb d_N_forgetTried_4 (by decide) ?_
  refine lv_isub hx hb d_N_forgetTried_5 ?_
  refine lv_istore_n (lv' := [(2, .int y2), (0, .ref x0), (1, .int x1)]) hx hb d_N_forgetTried_6 rfl hl (by decide) (by subst ey2; rfl) (fun ls hl => ?_)
  exact w9 p e s m args below meth c A H locs ls F hw (lv_sub hl [1, 2, 0] rfl)
set_option maxRecDepth 100000 in
set_option maxHeartbeats 4000000 in
theorem c_G_init (l : Launch) (Z : XZ) (x0 : Nat) (x1 : Nat) (x2 : Nat) (u : PS) (K : PS → Prop) (k : p_G_init x0 x1 x2 u K) : ∃ (rv : Option Value) (u1 : PS), (kV K) rv u1 ∧ XMet l Z i_G_init [.ref x0, .ref x1, .ref x2] u rv u1 := by
  refine x_met (by decide) rfl (Nat.le_of_ble_eq_true rfl) ?_
  show XN l Z i_G_init u (kV K) u 0 [(0, .ref x0), (1, .ref x1), (2, .ref x2)] []
  unfold p_G_init at k
  obtain ⟨u_27, h1, k⟩ := k
  obtain ⟨u_28, h2, k⟩ := k
  obtain ⟨a_29, u_30, h3, k⟩ := k
  obtain ⟨u_31, h4, k⟩ := k
  obtain ⟨a_32, u_33, h5, k⟩ := k
  obtain ⟨u_34, h6, k⟩ := k
  obtain ⟨a_35, u_36, h7, k⟩ := k
  obtain ⟨u_37, h8, k⟩ := k
  obtain ⟨a_38, u_39, h9, k⟩ := k
  obtain ⟨u_40, h10, k⟩ := k
  obtain ⟨a_41, u_42, h11, k⟩ := k
  obtain ⟨u_43, h12, k⟩ := k
  obtain ⟨a_44, u_45, h13, k⟩ := k
  obtain ⟨u_46, h14, k⟩ := k
  obtain ⟨a_47, u_48, h15, k⟩ := k
  obtain ⟨u_49, h16, k⟩ := k
  obtain ⟨a_50, u_51, h17, k⟩ := k
  obtain ⟨u_52, h18, k⟩ := k
  have hle_u_52 : x_le u_52 u_52 := x_le.rf u_52
  have hle_u_51 : x_le u_51 u_52 := (h18.le).tr hle_u_52
  have hle_u_49 : x_le u_49 u_52 := (h17.le).tr hle_u_51
  have hle_u_48 : x_le u_48 u_52 := (h16.le).tr hle_u_49
  have hle_u_46 : x_le u_46 u_52 := (h15.le).tr hle_u_48
  have hle_u_45 : x_le u_45 u_52 := (h14.le).tr hle_u_46
  have hle_u_43 : x_le u_43 u_52 := (h13.le).tr hle_u_45
  have hle_u_42 : x_le u_42 u_52 := (h12.le).tr hle_u_43
  have hle_u_40 : x_le u_40 u_52 := (h11.le).tr hle_u_42
  have hle_u_39 : x_le u_39 u_52 := (h10.le).tr hle_u_40
  have hle_u_37 : x_le u_37 u_52 := (h9.le).tr hle_u_39
  have hle_u_36 : x_le u_36 u_52 := (h8.le).tr hle_u_37
  have hle_u_34 : x_le u_34 u_52 := (h7.le).tr hle_u_36
  have hle_u_33 : x_le u_33 u_52 := (h6.le).tr hle_u_34
  have hle_u_31 : x_le u_31 u_52 := (h5.le).tr hle_u_33
  have hle_u_30 : x_le u_30 u_52 := (h4.le).tr hle_u_31
  have hle_u_28 : x_le u_28 u_52 := (h3.le).tr hle_u_30
  have hle_u_27 : x_le u_27 u_52 := (h2.le).tr hle_u_28
  have hle_u : x_le u u_52 := (h1.le).tr hle_u_27
  refine ⟨none, u_52, ⟨rfl, k⟩, hle_u, ?_⟩
  intro p e s m args below meth c A H locs ls F hw hl
  obtain ⟨⟨hx, hb, hml, hown, hts⟩, hr, hlocks, hmn⟩ := id F
  refine lv_aload_n hx hb d_G_init_0 rfl (lv_at hl 0 rfl) ?_
  refine W.objInit hx hb hown (hts _ (xm w_122)) (hts _ (xm w_23)) (hts _ (xm w_24)) rfl (by rw [hml]; exact hl.1) rfl d_G_init_1 (Nat.le_of_ble_eq_true rfl) (Nat.le_of_ble_eq_true rfl) ?_
  refine W.eq (g2 := F0 m 4 ls []) rfl ?_
  refine lv_aload_n hx hb d_G_init_4 rfl (lv_at hl 0 rfl) ?_
  refine lv_aload_n hx hb d_G_init_5 rfl (lv_at hl 1 rfl) ?_
  refine xr_putF (ty := .object "DiagramHouse$Functions") hx hb hts (xmu uws_G) tyc_G tyc_G_ok nmc_G hown hw h1 rfl (by decide) (hts _ (xm w_123)) (fun _ h9 => h9) rfl hmn rfl (by decide +kernel) rfl rfl d_G_init_6 (fun H locs hw => ?_)
  refine lv_aload_n hx hb d_G_init_9 rfl (lv_at hl 0 rfl) ?_
  refine lv_aload_n hx hb d_G_init_10 rfl (lv_at hl 2 rfl) ?_
  refine xr_putF (ty := .object "DiagramHouse$Nodes") hx hb hts (xmu uws_G) tyc_G tyc_G_ok nmc_G hown hw h2 rfl (by decide) (hts _ (xm w_124)) (fun _ h9 => h9) rfl hmn rfl (by decide +kernel) rfl rfl d_G_init_11 (fun H locs hw => ?_)
  refine lv_aload_n hx hb d_G_init_14 rfl (lv_at hl 0 rfl) ?_
  refine lv_bipush (v := 10) hx hb d_G_init_15 (by decide) ?_
  refine xr_newai hx hb rfl (hts _ (xm w_51)) hw h3 hle_u_30 d_G_init_17 (fun H hw => ?_)
  refine xr_putF (ty := .array .int) hx hb hts (xmu uws_G) tyc_G tyc_G_ok nmc_G hown hw h4 rfl (by decide) (hts _ (xm w_125)) (fun _ h9 => h9) rfl hmn rfl (by decide +kernel) rfl rfl d_G_init_19 (fun H locs hw => ?_)
  refine lv_aload_n hx hb d_G_init_22 rfl (lv_at hl 0 rfl) ?_
  refine lv_bipush (v := 32) hx hb d_G_init_23 (by decide) ?_
  refine xr_newai hx hb rfl (hts _ (xm w_51)) hw h5 hle_u_33 d_G_init_25 (fun H hw => ?_)
  refine xr_putF (ty := .array .int) hx hb hts (xmu uws_G) tyc_G tyc_G_ok nmc_G hown hw h6 rfl (by decide) (hts _ (xm w_126)) (fun _ h9 => h9) rfl hmn rfl (by decide +kernel) rfl rfl d_G_init_27 (fun H locs hw => ?_)
  refine lv_aload_n hx hb d_G_init_30 rfl (lv_at hl 0 rfl) ?_
  refine lv_bipush (v := 32) hx hb d_G_init_31 (by decide) ?_
  refine xr_newai hx hb rfl (hts _ (xm w_51)) hw h7 hle_u_36 d_G_init_33 (fun H hw => ?_)
  refine xr_putF (ty := .array .int) hx hb hts (xmu uws_G) tyc_G tyc_G_ok nmc_G hown hw h8 rfl (by decide) (hts _ (xm w_127)) (fun _ h9 => h9) rfl hmn rfl (by decide +kernel) rfl rfl d_G_init_35 (fun H locs hw => ?_)
  refine lv_aload_n hx hb d_G_init_38 rfl (lv_at hl 0 rfl) ?_
  refine lv_bipush (v := 16) hx hb d_G_init_39 (by decide) ?_
  refine xr_newal hx hb rfl (hts _ (xm w_50)) hw h9 hle_u_39 d_G_init_41 (fun H hw => ?_)
  refine xr_putF (ty := .array .long) hx hb hts (xmu uws_G) tyc_G tyc_G_ok nmc_G hown hw h10 rfl (by decide) (hts _ (xm w_128)) (fun _ h9 => h9) rfl hmn rfl (by decide +kernel) rfl rfl d_G_init_43 (fun H locs hw => ?_)
  refine lv_aload_n hx hb d_G_init_46 rfl (lv_at hl 0 rfl) ?_
  refine lv_bipush (v := 16) hx hb d_G_init_47 (by decide) ?_
  refine xr_newai hx hb rfl (hts _ (xm w_51)) hw h11 hle_u_42 d_G_init_49 (fun H hw => ?_)
  refine xr_putF (ty := .array .int) hx hb hts (xmu uws_G) tyc_G tyc_G_ok nmc_G hown hw h12 rfl (by decide) (hts _ (xm w_129)) (fun _ h9 => h9) rfl hmn rfl (by decide +kernel) rfl rfl d_G_init_51 (fun H locs hw => ?_)
  refine lv_aload_n hx hb d_G_init_54 rfl (lv_at hl 0 rfl) ?_
  refine lv_bipush (v := 16) hx hb d_G_init_55 (by decide) ?_
  refine xr_newai hx hb rfl (hts _ (xm w_51)) hw h13 hle_u_45 d_G_init_57 (fun H hw => ?_)
  refine xr_putF (ty := .array .int) hx hb hts (xmu uws_G) tyc_G tyc_G_ok nmc_G hown hw h14 rfl (by decide) (hts _ (xm w_130)) (fun _ h9 => h9) rfl hmn rfl (by decide +kernel) rfl rfl d_G_init_59 (fun H locs hw => ?_)
  refine lv_aload_n hx hb d_G_init_62 rfl (lv_at hl 0 rfl) ?_
  refine lv_bipush (v := 10) hx hb d_G_init_63 (by decide) ?_
  refine xr_newai hx hb rfl (hts _ (xm w_51)) hw h15 hle_u_48 d_G_init_65 (fun H hw => ?_)
  refine xr_putF (ty := .array .int) hx hb hts (xmu uws_G) tyc_G tyc_G_ok nmc_G hown hw h16 rfl (by decide) (hts _ (xm w_131)) (fun _ h9 => h9) rfl hmn rfl (by decide +kernel) rfl rfl d_G_init_67 (fun H locs hw => ?_)
  refine lv_aload_n hx hb d_G_init_70 rfl (lv_at hl 0 rfl) ?_
  refine lv_bipush (v := 10) hx hb d_G_init_71 (by decide) ?_
  refine xr_newai hx hb rfl (hts _ (xm w_51)) hw h17 hle_u_51 d_G_init_73 (fun H hw => ?_)
  refine xr_putF (ty := .array .int) hx hb hts (xmu uws_G) tyc_G tyc_G_ok nmc_G hown hw h18 rfl (by decide) (hts _ (xm w_132)) (fun _ h9 => h9) rfl hmn rfl (by decide +kernel) rfl rfl d_G_init_75 (fun H locs hw => ?_)
  exact xr_vret F rfl hw d_G_init_78
set_option maxRecDepth 100000 in
set_option maxHeartbeats 4000000 in
theorem t_G_folded_L34 (l : Launch) (Z : XZ) (u0 : PS) {Kv : Option Value → PS → Prop} {E74 : PS → Prop} (x0 : Nat) (x1 : Nat) (x3 : Int32) (x4 : Int32) (x5 : Int32) (x6 : Int32) (hE74 : ∀ (v : PS), E74 v → XN l Z i_G_folded u0 Kv v 74 [(0, .ref x0), (1, .ref x1), (3, .int x3), (4, .int x4), (5, .int x5)] []) : ∀ (n : Nat) (x7 : Int32) (u : PS), p_G_folded_L34 x0 x1 x3 x4 x5 x6 E74 n x7 u → XN l Z i_G_folded u0 Kv u 34 [(0, .ref x0), (1, .ref x1), (3, .int x3), (4, .int x4), (5, .int x5), (6, .int x6), (7, .int x7)] [] := by
  intro n
  induction n with
  | zero => intro x7 u k; exact False.elim k
  | succ n ih =>
    intro x7 u k
    rw [p_G_folded_L34] at k
    by_cases hc1 : x4 ≤ x7
    · have k := k.1 hc1
      obtain ⟨rv, v9, hK, hle_u, w9⟩ := hE74 u k
      refine ⟨rv, v9, hK, hle_u, ?_⟩
      intro p e s m args below meth c A H locs ls F hw hl
      obtain ⟨⟨hx, hb, hml, hown, hts⟩, hr, hlocks, hmn⟩ := id F
      refine lv_iload hx hb d_G_folded_34 (lv_at hl 6 rfl) ?_
      refine lv_iload hx hb d_G_folded_36 (lv_at hl 3 rfl) ?_
      refine lv_icmp_ge (tgt := 74) hx hb d_G_folded_38 (by decide) (fun _ => ?_) (fun c9 => absurd hc1 c9)
      exact w9 p e s m args below meth c A H locs ls F hw (lv_sub hl [0, 1, 2, 3, 4] rfl)
    · have k := k.2 hc1
      obtain ⟨z_20, h2, k⟩ := k
      obtain ⟨z_21, h3, k⟩ := k
      obtain ⟨z_22, h4, k⟩ := k
      obtain ⟨h6, k⟩ := k
      obtain ⟨_, u_23, ⟨r_24, rfl, k⟩, hM5⟩ := c_N_nodeFor l Z z_20 x6 z_21 z_22 u _ k
      obtain ⟨u_25, h7, k⟩ := k
      obtain ⟨y8, ey8⟩ : ∃ y9 : Int32, y9 = x7 + 1 := ⟨_, rfl⟩
      have k := k y8 ey8
      obtain ⟨rv, v9, hK, hle_u_25, w9⟩ := ih y8 u_25 k
      have hle_u_23 : x_le u_23 v9 := (h7.le).tr hle_u_25
      have hle_u : x_le u v9 := (hM5.1).tr hle_u_23
      refine ⟨rv, v9, hK, hle_u, ?_⟩
      intro p e s m args below meth c A H locs ls F hw hl
      obtain ⟨⟨hx, hb, hml, hown, hts⟩, hr, hlocks, hmn⟩ := id F
      refine lv_iload hx hb d_G_folded_34 (lv_at hl 6 rfl) ?_
      refine lv_iload hx hb d_G_folded_36 (lv_at hl 3 rfl) ?_
      refine lv_icmp_ge (tgt := 74) hx hb d_G_folded_38 (by decide) (fun c9 => absurd c9 hc1) (fun _ => ?_)
      refine lv_aload_n hx hb d_G_folded_41 rfl (lv_at hl 1 rfl) ?_
      refine lv_iload hx hb d_G_folded_42 (lv_at hl 6 rfl) ?_
      refine lv_aload_n hx hb d_G_folded_44 rfl (lv_at hl 0 rfl) ?_
      refine xr_get hx hb hts (xmu uws_G) hown hw h2 rfl (by decide) (hts _ (xm w_124)) (fun _ h9 => h9) d_G_folded_45 ?_
      refine lv_iload hx hb d_G_folded_48 (lv_at hl 5 rfl) ?_
      refine lv_aload_n hx hb d_G_folded_50 rfl (lv_at hl 1 rfl) ?_
      refine lv_iconst (v := 2) hx hb d_G_folded_51 (by decide) ?_
      refine lv_iload hx hb d_G_folded_52 (lv_at hl 6 rfl) ?_
      refine lv_imul hx hb d_G_folded_54 ?_
      refine xr_iald hx hb hw h3 d_G_folded_55 ?_
      refine lv_aload_n hx hb d_G_folded_56 rfl (lv_at hl 1 rfl) ?_
      refine lv_iconst (v := 2) hx hb d_G_folded_57 (by decide) ?_
      refine lv_iload hx hb d_G_folded_58 (lv_at hl 6 rfl) ?_
      refine lv_imul hx hb d_G_folded_60 ?_
      refine lv_iconst (v := 1) hx hb d_G_folded_61 (by decide) ?_
      refine lv_iadd hx hb d_G_folded_62 ?_
      refine xr_iald hx hb hw h4 d_G_folded_63 ?_
      refine xr_cV (As := [.int x6, .int z_21, .int z_22]) (rest := [.int x7, .ref x1]) ⟨hx, hb, hml, hown, hts⟩ hw hM5 hle_u_23 (fun _ _ => ⟨callB_of 3 hts (xgood w_317) rfl rfl rfl (hts _ (xm w_4)) (hts _ (xm w_314)) ⟨by decide, by decide, by decide +kernel⟩ ⟨Nat.le_of_ble_eq_true rfl, Nat.le_of_ble_eq_true rfl⟩, (hts _ (xm w_315)), (hts _ (xm w_316))⟩) (qc := (R_N, F_N, 13)) rfl rfl h6 rfl hl.1 rfl (Nat.le_of_ble_eq_true rfl) d_G_folded_64 (fun H locs hw => ?_)
      refine W.eq (g2 := F0 m 67 ls [.int r_24, .int x7, .ref x1]) rfl ?_
      refine xr_iast hx hb hw h7 d_G_folded_67 (fun H locs hw => ?_)
      refine lv_iinc (v := y8) (lv' := [(7, .int y8), (0, .ref x0), (1, .ref x1), (3, .int x3), (4, .int x4), (5, .int x5), (6, .int x6)]) hx hb d_G_folded_68 hl (k := 6) rfl (by subst ey8; rfl) (by decide) rfl (fun ls hl => ?_)
      refine lv_goto (tgt := 34) hx hb d_G_folded_71 (by decide) ?_
      exact w9 p e s m args below meth c A H locs ls F hw (lv_sub hl [1, 2, 3, 4, 5, 6, 0] rfl)
set_option maxRecDepth 100000 in
set_option maxHeartbeats 4000000 in
theorem t_G_folded_J74 (l : Launch) (Z : XZ) (u0 : PS) {Kv : Option Value → PS → Prop} {R : Int32 → Int32 → PS → Prop} {E80 : PS → Prop} (x0 : Nat) (x1 : Nat) (x3 : Int32) (x4 : Int32) (x5 : Int32) (u : PS) (hR : ∀ (y4 : Int32) (y5 : Int32) (v : PS), R y4 y5 v → XN l Z i_G_folded u0 Kv v 10 [(0, .ref x0), (1, .ref x1), (3, .int x3), (4, .int y4), (5, .int y5)] []) (hE80 : ∀ (v : PS), E80 v → XN l Z i_G_folded u0 Kv v 80 [(1, .ref x1)] []) (k : (p_G_folded_J74 R E80 x0 x1 x3 x4 x5 u)) : XN l Z i_G_folded u0 Kv u 74 [(0, .ref x0), (1, .ref x1), (3, .int x3), (4, .int x4), (5, .int x5)] [] := by
  unfold p_G_folded_J74 at k
  obtain ⟨y1, ey1⟩ : ∃ y9 : Int32, y9 = x5 + 1 := ⟨_, rfl⟩
  have k := k y1 ey1
  obtain ⟨rv, v9, hK, hle_u, w9⟩ := hR x4 y1 u k
  refine ⟨rv, v9, hK, hle_u, ?_⟩
  intro p e s m args below meth c A H locs ls F hw hl
  obtain ⟨⟨hx, hb, hml, hown, hts⟩, hr, hlocks, hmn⟩ := id F
  refine lv_iinc (v := y1) (lv' := [(5, .int y1), (0, .ref x0), (1, .ref x1), (3, .int x3), (4, .int x4)]) hx hb d_G_folded_74 hl (k := 4) rfl (by subst ey1; rfl) (by decide) rfl (fun ls hl => ?_)
  refine lv_goto (tgt := 10) hx hb d_G_folded_77 (by decide) ?_
  exact w9 p e s m args below meth c A H locs ls F hw (lv_sub hl [1, 2, 3, 4, 0] rfl)
set_option maxRecDepth 100000 in
set_option maxHeartbeats 4000000 in
theorem t_G_folded_L10 (l : Launch) (Z : XZ) (u0 : PS) {Kv : Option Value → PS → Prop} {E80 : PS → Prop} (x0 : Nat) (x1 : Nat) (x3 : Int32) (hE80 : ∀ (v : PS), E80 v → XN l Z i_G_folded u0 Kv v 80 [(1, .ref x1)] []) : ∀ (n : Nat) (x4 : Int32) (x5 : Int32) (u : PS), p_G_folded_L10 x0 x1 x3 E80 n x4 x5 u → XN l Z i_G_folded u0 Kv u 10 [(0, .ref x0), (1, .ref x1), (3, .int x3), (4, .int x4), (5, .int x5)] [] := by
  intro n
  induction n with
  | zero => intro x4 x5 u k; exact False.elim k
  | succ n ih =>
    intro x4 x5 u k
    rw [p_G_folded_L10] at k
    by_cases hc1 : x3 ≤ x5
    · have k := k.1 hc1
      obtain ⟨rv, v9, hK, hle_u, w9⟩ := hE80 u k
      refine ⟨rv, v9, hK, hle_u, ?_⟩
      intro p e s m args below meth c A H locs ls F hw hl
      obtain ⟨⟨hx, hb, hml, hown, hts⟩, hr, hlocks, hmn⟩ := id F
      refine lv_iload hx hb d_G_folded_10 (lv_at hl 4 rfl) ?_
      refine lv_iload_n hx hb d_G_folded_12 rfl (lv_at hl 2 rfl) ?_
      refine lv_icmp_ge (tgt := 80) hx hb d_G_folded_13 (by decide) (fun _ => ?_) (fun c9 => absurd hc1 c9)
      exact w9 p e s m args below meth c A H locs ls F hw (lv_sub hl [1] rfl)
    · have k := k.2 hc1
      obtain ⟨z_18, h2, k⟩ := k
      obtain ⟨z_19, h3, k⟩ := k
      obtain ⟨h4, k⟩ := k
      obtain ⟨y5, ey5⟩ : ∃ y9 : Int32, y9 = (x4 / (2 : Int32)) := ⟨_, rfl⟩
      have k := k y5 ey5
      obtain ⟨n6, k⟩ := k
      have hx8 : ∀ (v7 : PS), (p_G_folded_J74 (p_G_folded_L10 x0 x1 x3 E80 n) E80 x0 x1 x3 y5 x5 v7) → XN l Z i_G_folded u0 Kv v7 74 [(0, .ref x0), (1, .ref x1), (3, .int x3), (4, .int y5), (5, .int x5)] [] := by
        intro v7 k
        obtain ⟨rv, v9, hK, hle_v7, w9⟩ := t_G_folded_J74 l Z u0 x0 x1 x3 y5 x5 v7 ih hE80 k
        refine ⟨rv, v9, hK, hle_v7, ?_⟩
        intro p e s m args below meth c A H locs ls F hw hl
        obtain ⟨⟨hx, hb, hml, hown, hts⟩, hr, hlocks, hmn⟩ := id F
        exact w9 p e s m args below meth c A H locs ls F hw (lv_sub hl [0, 1, 2, 3, 4] rfl)
      obtain ⟨rv, v9, hK, hle_u, w9⟩ := t_G_folded_L34 l Z u0 x0 x1 x3 y5 x5 z_19 hx8 n6 (0 : Int32) u k
      refine ⟨rv, v9, hK, hle_u, ?_⟩
      intro p e s m args below meth c A H locs ls F hw hl
      obtain ⟨⟨hx, hb, hml, hown, hts⟩, hr, hlocks, hmn⟩ := id F
      refine lv_iload hx hb d_G_folded_10 (lv_at hl 4 rfl) ?_
      refine lv_iload_n hx hb d_G_folded_12 rfl (lv_at hl 2 rfl) ?_
      refine lv_icmp_ge (tgt := 80) hx hb d_G_folded_13 (by decide) (fun c9 => absurd c9 hc1) (fun _ => ?_)
      refine lv_aload_n hx hb d_G_folded_16 rfl (lv_at hl 0 rfl) ?_
      refine xr_get hx hb hts (xmu uws_G) hown hw h2 rfl (by decide) (hts _ (xm w_125)) (fun _ h9 => h9) d_G_folded_17 ?_
      refine lv_iload hx hb d_G_folded_20 (lv_at hl 4 rfl) ?_
      refine xr_iald hx hb hw h3 d_G_folded_22 ?_
      refine lv_istore (lv' := [(6, .int z_19), (0, .ref x0), (1, .ref x1), (3, .int x3), (4, .int x4), (5, .int x5)]) hx hb d_G_folded_23 hl (by decide) rfl (fun ls hl => ?_)
      refine lv_iload hx hb d_G_folded_25 (lv_at hl 4 rfl) ?_
      refine lv_iconst (v := 2) hx hb d_G_folded_27 (by decide) ?_
      refine lv_idiv hx hb d_G_folded_28 h4 ?_
      refine lv_istore (lv' := [(4, .int y5), (6, .int z_19), (0, .ref x0), (1, .ref x1), (3, .int x3), (5, .int x5)]) hx hb d_G_folded_29 hl (by decide) (by subst ey5; rfl) (fun ls hl => ?_)
      refine lv_iconst (v := 0) hx hb d_G_folded_31 (by decide) ?_
      refine lv_istore (lv' := [(7, .int 0), (4, .int y5), (6, .int z_19), (0, .ref x0), (1, .ref x1), (3, .int x3), (5, .int x5)]) hx hb d_G_folded_32 hl (by decide) rfl (fun ls hl => ?_)
      exact w9 p e s m args below meth c A H locs ls F hw (lv_sub hl [3, 4, 5, 1, 6, 2, 0] rfl)
set_option maxRecDepth 100000 in
set_option maxHeartbeats 4000000 in
theorem t_G_folded_J80 (l : Launch) (Z : XZ) (u0 : PS) {K : Int32 → PS → Prop} (x1 : Nat) (u : PS) (k : (p_G_folded_J80 K x1 u)) : XN l Z i_G_folded u0 (kI K) u 80 [(1, .ref x1)] [] := by
  unfold p_G_folded_J80 at k
  obtain ⟨z_26, h1, k⟩ := k
  have hle_u : x_le u u := x_le.rf u
  refine ⟨some (.int z_26), u, ⟨z_26, rfl, k⟩, hle_u, ?_⟩
  intro p e s m args below meth c A H locs ls F hw hl
  obtain ⟨⟨hx, hb, hml, hown, hts⟩, hr, hlocks, hmn⟩ := id F
  refine lv_aload_n hx hb d_G_folded_80 rfl (lv_at hl 0 rfl) ?_
  refine lv_iconst (v := 0) hx hb d_G_folded_81 (by decide) ?_
  refine xr_iald hx hb hw h1 d_G_folded_82 ?_
  exact xr_iret F rfl hw d_G_folded_83
set_option maxRecDepth 100000 in
set_option maxHeartbeats 4000000 in
theorem c_G_folded (l : Launch) (Z : XZ) (x0 : Nat) (x1 : Nat) (x2 : Int32) (x3 : Int32) (u : PS) (K : Int32 → PS → Prop) (k : p_G_folded x0 x1 x2 x3 u K) : ∃ (rv : Option Value) (u1 : PS), (kI K) rv u1 ∧ XMet l Z i_G_folded [.ref x0, .ref x1, .int x2, .int x3] u rv u1 := by
  refine x_met (by decide) rfl (Nat.le_of_ble_eq_true rfl) ?_
  show XN l Z i_G_folded u (kI K) u 0 [(0, .ref x0), (1, .ref x1), (2, .int x2), (3, .int x3)] []
  unfold p_G_folded at k
  obtain ⟨y1, ey1⟩ : ∃ y9 : Int32, y9 = ((1 : Int32) <<< ((x3 - x2) &&& 31)) := ⟨_, rfl⟩
  have k := k y1 ey1
  obtain ⟨n2, k⟩ := k
  have hx4 : ∀ (v3 : PS), (p_G_folded_J80 K x1 v3) → XN l Z i_G_folded u (kI K) v3 80 [(1, .ref x1)] [] := by
    intro v3 k
    obtain ⟨rv, v9, hK, hle_v3, w9⟩ := t_G_folded_J80 l Z u x1 v3 k
    refine ⟨rv, v9, hK, hle_v3, ?_⟩
    intro p e s m args below meth c A H locs ls F hw hl
    obtain ⟨⟨hx, hb, hml, hown, hts⟩, hr, hlocks, hmn⟩ := id F
    exact w9 p e s m args below meth c A H locs ls F hw (lv_sub hl [0] rfl)
  obtain ⟨rv, v9, hK, hle_u, w9⟩ := t_G_folded_L10 l Z u x0 x1 x3 hx4 n2 y1 x2 u k
  refine ⟨rv, v9, hK, hle_u, ?_⟩
  intro p e s m args below meth c A H locs ls F hw hl
  obtain ⟨⟨hx, hb, hml, hown, hts⟩, hr, hlocks, hmn⟩ := id F
  refine lv_iconst (v := 1) hx hb d_G_folded_0 (by decide) ?_
  refine lv_iload_n hx hb d_G_folded_1 rfl (lv_at hl 3 rfl) ?_
  refine lv_iload_n hx hb d_G_folded_2 rfl (lv_at hl 2 rfl) ?_
  refine lv_isub hx hb d_G_folded_3 ?_
  refine lv_ishl hx hb d_G_folded_4 ?_
  refine lv_istore (lv' := [(4, .int y1), (0, .ref x0), (1, .ref x1), (2, .int x2), (3, .int x3)]) hx hb d_G_folded_5 hl (by decide) (by subst ey1; rfl) (fun ls hl => ?_)
  refine lv_iload_n hx hb d_G_folded_7 rfl (lv_at hl 3 rfl) ?_
  refine lv_istore (lv' := [(5, .int x2), (4, .int y1), (0, .ref x0), (1, .ref x1), (2, .int x2), (3, .int x3)]) hx hb d_G_folded_8 hl (by decide) rfl (fun ls hl => ?_)
  exact w9 p e s m args below meth c A H locs ls F hw (lv_sub hl [2, 3, 5, 1, 0] rfl)
set_option maxRecDepth 100000 in
set_option maxHeartbeats 4000000 in
theorem t_G_ofBits_L47 (l : Launch) (Z : XZ) (u0 : PS) {Kv : Option Value → PS → Prop} {E101 : PS → Prop} (x0 : Nat) (x1 : Int32) (x2 : Int32) (x3 : Int32) (x4 : Int32) (x5 : Int32) (hE101 : ∀ (v : PS), E101 v → XN l Z i_G_ofBits u0 Kv v 101 [(0, .ref x0), (1, .int x1), (2, .int x2), (3, .int x3), (4, .int x4)] []) : ∀ (n : Nat) (x6 : Int32) (u : PS), p_G_ofBits_L47 x0 x1 x2 x3 x4 x5 E101 n x6 u → XN l Z i_G_ofBits u0 Kv u 47 [(0, .ref x0), (1, .int x1), (2, .int x2), (3, .int x3), (4, .int x4), (5, .int x5), (6, .int x6)] [] := by
  intro n
  induction n with
  | zero => intro x6 u k; exact False.elim k
  | succ n ih =>
    intro x6 u k
    rw [p_G_ofBits_L47] at k
    by_cases hc1 : x3 ≤ x6
    · have k := k.1 hc1
      obtain ⟨rv, v9, hK, hle_u, w9⟩ := hE101 u k
      refine ⟨rv, v9, hK, hle_u, ?_⟩
      intro p e s m args below meth c A H locs ls F hw hl
      obtain ⟨⟨hx, hb, hml, hown, hts⟩, hr, hlocks, hmn⟩ := id F
      refine lv_iload hx hb d_G_ofBits_47 (lv_at hl 6 rfl) ?_
      refine lv_iload_n hx hb d_G_ofBits_49 rfl (lv_at hl 3 rfl) ?_
      refine lv_icmp_ge (tgt := 101) hx hb d_G_ofBits_50 (by decide) (fun _ => ?_) (fun c9 => absurd hc1 c9)
      exact w9 p e s m args below meth c A H locs ls F hw (lv_sub hl [0, 1, 2, 3, 4] rfl)
    · have k := k.2 hc1
      obtain ⟨z_40, h2, k⟩ := k
      obtain ⟨z_41, h3, k⟩ := k
      obtain ⟨y4, ey4⟩ : ∃ y9 : Int32, y9 = (z_41 ||| x5) := ⟨_, rfl⟩
      have k := k y4 ey4
      obtain ⟨z_42, h5, k⟩ := k
      obtain ⟨u_43, h6, k⟩ := k
      obtain ⟨z_44, h7, k⟩ := k
      obtain ⟨z_45, h8, k⟩ := k
      obtain ⟨h10, k⟩ := k
      obtain ⟨_, u_46, ⟨r_47, rfl, k⟩, hM9⟩ := c_F_bit l Z z_45 x1 y4 u_43 _ k
      obtain ⟨u_48, h11, k⟩ := k
      obtain ⟨y12, ey12⟩ : ∃ y9 : Int32, y9 = x6 + 1 := ⟨_, rfl⟩
      have k := k y12 ey12
      obtain ⟨rv, v9, hK, hle_u_48, w9⟩ := ih y12 u_48 k
      have hle_u_46 : x_le u_46 v9 := (h11.le).tr hle_u_48
      have hle_u_43 : x_le u_43 v9 := (hM9.1).tr hle_u_46
      have hle_u : x_le u v9 := (h6.le).tr hle_u_43
      refine ⟨rv, v9, hK, hle_u, ?_⟩
      intro p e s m args below meth c A H locs ls F hw hl
      obtain ⟨⟨hx, hb, hml, hown, hts⟩, hr, hlocks, hmn⟩ := id F
      refine lv_iload hx hb d_G_ofBits_47 (lv_at hl 6 rfl) ?_
      refine lv_iload_n hx hb d_G_ofBits_49 rfl (lv_at hl 3 rfl) ?_
      refine lv_icmp_ge (tgt := 101) hx hb d_G_ofBits_50 (by decide) (fun c9 => absurd c9 hc1) (fun _ => ?_)
      refine lv_aload_n hx hb d_G_ofBits_53 rfl (lv_at hl 0 rfl) ?_
      refine xr_get hx hb hts (xmu uws_G) hown hw h2 rfl (by decide) (hts _ (xm w_126)) (fun _ h9 => h9) d_G_ofBits_54 ?_
      refine lv_iload hx hb d_G_ofBits_57 (lv_at hl 6 rfl) ?_
      refine xr_iald hx hb hw h3 d_G_ofBits_59 ?_
      refine lv_iload hx hb d_G_ofBits_60 (lv_at hl 5 rfl) ?_
      refine lv_ior hx hb d_G_ofBits_62 ?_
      refine lv_istore (lv' := [(7, .int y4), (0, .ref x0), (1, .int x1), (2, .int x2), (3, .int x3), (4, .int x4), (5, .int x5), (6, .int x6)]) hx hb d_G_ofBits_63 hl (by decide) (by subst ey4; rfl) (fun ls hl => ?_)
      refine lv_aload_n hx hb d_G_ofBits_65 rfl (lv_at hl 1 rfl) ?_
      refine xr_get hx hb hts (xmu uws_G) hown hw h5 rfl (by decide) (hts _ (xm w_126)) (fun _ h9 => h9) d_G_ofBits_66 ?_
      refine lv_iload_n hx hb d_G_ofBits_69 rfl (lv_at hl 4 rfl) ?_
      refine lv_iload hx hb d_G_ofBits_70 (lv_at hl 7 rfl) ?_
      refine lv_iadd hx hb d_G_ofBits_72 ?_
      refine lv_iload hx hb d_G_ofBits_73 (lv_at hl 0 rfl) ?_
      refine xr_iast hx hb hw h6 d_G_ofBits_75 (fun H locs hw => ?_)
      refine lv_aload_n hx hb d_G_ofBits_76 rfl (lv_at hl 1 rfl) ?_
      refine xr_get hx hb hts (xmu uws_G) hown hw h7 rfl (by decide) (hts _ (xm w_127)) (fun _ h9 => h9) d_G_ofBits_77 ?_
      refine lv_iload_n hx hb d_G_ofBits_80 rfl (lv_at hl 4 rfl) ?_
      refine lv_iload hx hb d_G_ofBits_81 (lv_at hl 7 rfl) ?_
      refine lv_iadd hx hb d_G_ofBits_83 ?_
      refine lv_aload_n hx hb d_G_ofBits_84 rfl (lv_at hl 1 rfl) ?_
      refine xr_get hx hb hts (xmu uws_G) hown hw h8 rfl (by decide) (hts _ (xm w_123)) (fun _ h9 => h9) d_G_ofBits_85 ?_
      refine lv_iload_n hx hb d_G_ofBits_88 rfl (lv_at hl 2 rfl) ?_
      refine lv_iload hx hb d_G_ofBits_89 (lv_at hl 0 rfl) ?_
      refine xr_cV (As := [.int x1, .int y4]) (rest := [.int (x3 + x6), .ref z_44]) ⟨hx, hb, hml, hown, hts⟩ hw hM9 hle_u_46 (fun _ _ => ⟨callB_of 2 hts (xgood w_284) rfl rfl rfl (hts _ (xm w_2)) (hts _ (xm w_281)) ⟨by decide, by decide, by decide +kernel⟩ ⟨Nat.le_of_ble_eq_true rfl, Nat.le_of_ble_eq_true rfl⟩, (hts _ (xm w_282)), (hts _ (xm w_283))⟩) (qc := (R_F, F_F, 5)) rfl rfl h10 rfl hl.1 rfl (Nat.le_of_ble_eq_true rfl) d_G_ofBits_91 (fun H locs hw => ?_)
      refine W.eq (g2 := F0 m 94 ls [.int r_47, .int (x3 + x6), .ref z_44]) rfl ?_
      refine xr_iast hx hb hw h11 d_G_ofBits_94 (fun H locs hw => ?_)
      refine lv_iinc (v := y12) (lv' := [(6, .int y12), (7, .int y4), (0, .ref x0), (1, .int x1), (2, .int x2), (3, .int x3), (4, .int x4), (5, .int x5)]) hx hb d_G_ofBits_95 hl (k := 7) rfl (by subst ey12; rfl) (by decide) rfl (fun ls hl => ?_)
      refine lv_goto (tgt := 47) hx hb d_G_ofBits_98 (by decide) ?_
      exact w9 p e s m args below meth c A H locs ls F hw (lv_sub hl [2, 3, 4, 5, 6, 7, 0] rfl)
set_option maxRecDepth 100000 in
set_option maxHeartbeats 4000000 in
theorem t_G_ofBits_J101 (l : Launch) (Z : XZ) (u0 : PS) {Kv : Option Value → PS → Prop} {R : Int32 → Int32 → PS → Prop} {E111 : PS → Prop} (x0 : Nat) (x1 : Int32) (x2 : Int32) (x3 : Int32) (x4 : Int32) (u : PS) (hR : ∀ (y3 : Int32) (y4 : Int32) (v : PS), R y3 y4 v → XN l Z i_G_ofBits u0 Kv v 27 [(0, .ref x0), (1, .int x1), (2, .int x2), (3, .int y3), (4, .int y4)] []) (hE111 : ∀ (v : PS), E111 v → XN l Z i_G_ofBits u0 Kv v 111 [(0, .ref x0), (2, .int x2)] []) (k : (p_G_ofBits_J101 R E111 x0 x1 x2 x3 x4 u)) : XN l Z i_G_ofBits u0 Kv u 101 [(0, .ref x0), (1, .int x1), (2, .int x2), (3, .int x3), (4, .int x4)] [] := by
  unfold p_G_ofBits_J101 at k
  obtain ⟨y1, ey1⟩ : ∃ y9 : Int32, y9 = (x3 * (2 : Int32)) := ⟨_, rfl⟩
  have k := k y1 ey1
  obtain ⟨y2, ey2⟩ : ∃ y9 : Int32, y9 = x4 + 1 := ⟨_, rfl⟩
  have k := k y2 ey2
  obtain ⟨rv, v9, hK, hle_u, w9⟩ := hR y1 y2 u k
  refine ⟨rv, v9, hK, hle_u, ?_⟩
  intro p e s m args below meth c A H locs ls F hw hl
  obtain ⟨⟨hx, hb, hml, hown, hts⟩, hr, hlocks, hmn⟩ := id F
  refine lv_iload_n hx hb d_G_ofBits_101 rfl (lv_at hl 3 rfl) ?_
  refine lv_iconst (v := 2) hx hb d_G_ofBits_102 (by decide) ?_
  refine lv_imul hx hb d_G_ofBits_103 ?_
  refine lv_istore_n (lv' := [(3, .int y1), (0, .ref x0), (1, .int x1), (2, .int x2), (4, .int x4)]) hx hb d_G_ofBits_104 rfl hl (by decide) (by subst ey1; rfl) (fun ls hl => ?_)
  refine lv_iinc (v := y2) (lv' := [(4, .int y2), (3, .int y1), (0, .ref x0), (1, .int x1), (2, .int x2)]) hx hb d_G_ofBits_105 hl (k := 4) rfl (by subst ey2; rfl) (by decide) rfl (fun ls hl => ?_)
  refine lv_goto (tgt := 27) hx hb d_G_ofBits_108 (by decide) ?_
  exact w9 p e s m args below meth c A H locs ls F hw (lv_sub hl [2, 3, 4, 1, 0] rfl)
set_option maxRecDepth 100000 in
set_option maxHeartbeats 4000000 in
theorem t_G_ofBits_L27 (l : Launch) (Z : XZ) (u0 : PS) {Kv : Option Value → PS → Prop} {E111 : PS → Prop} (x0 : Nat) (x1 : Int32) (x2 : Int32) (hE111 : ∀ (v : PS), E111 v → XN l Z i_G_ofBits u0 Kv v 111 [(0, .ref x0), (2, .int x2)] []) : ∀ (n : Nat) (x3 : Int32) (x4 : Int32) (u : PS), p_G_ofBits_L27 x0 x1 x2 E111 n x3 x4 u → XN l Z i_G_ofBits u0 Kv u 27 [(0, .ref x0), (1, .int x1), (2, .int x2), (3, .int x3), (4, .int x4)] [] := by
  intro n
  induction n with
  | zero => intro x3 x4 u k; exact False.elim k
  | succ n ih =>
    intro x3 x4 u k
    rw [p_G_ofBits_L27] at k
    by_cases hc1 : x2 ≤ x4
    · have k := k.1 hc1
      obtain ⟨rv, v9, hK, hle_u, w9⟩ := hE111 u k
      refine ⟨rv, v9, hK, hle_u, ?_⟩
      intro p e s m args below meth c A H locs ls F hw hl
      obtain ⟨⟨hx, hb, hml, hown, hts⟩, hr, hlocks, hmn⟩ := id F
      refine lv_iload hx hb d_G_ofBits_27 (lv_at hl 4 rfl) ?_
      refine lv_iload_n hx hb d_G_ofBits_29 rfl (lv_at hl 2 rfl) ?_
      refine lv_icmp_ge (tgt := 111) hx hb d_G_ofBits_30 (by decide) (fun _ => ?_) (fun c9 => absurd hc1 c9)
      exact w9 p e s m args below meth c A H locs ls F hw (lv_sub hl [0, 2] rfl)
    · have k := k.2 hc1
      obtain ⟨z_38, h2, k⟩ := k
      obtain ⟨z_39, h3, k⟩ := k
      obtain ⟨y4, ey4⟩ : ∃ y9 : Int32, y9 = ((1 : Int32) <<< (z_39 &&& 31)) := ⟨_, rfl⟩
      have k := k y4 ey4
      obtain ⟨n5, k⟩ := k
      have hx7 : ∀ (v6 : PS), (p_G_ofBits_J101 (p_G_ofBits_L27 x0 x1 x2 E111 n) E111 x0 x1 x2 x3 x4 v6) → XN l Z i_G_ofBits u0 Kv v6 101 [(0, .ref x0), (1, .int x1), (2, .int x2), (3, .int x3), (4, .int x4)] [] := by
        intro v6 k
        obtain ⟨rv, v9, hK, hle_v6, w9⟩ := t_G_ofBits_J101 l Z u0 x0 x1 x2 x3 x4 v6 ih hE111 k
        refine ⟨rv, v9, hK, hle_v6, ?_⟩
        intro p e s m args below meth c A H locs ls F hw hl
        obtain ⟨⟨hx, hb, hml, hown, hts⟩, hr, hlocks, hmn⟩ := id F
        exact w9 p e s m args below meth c A H locs ls F hw (lv_sub hl [0, 1, 2, 3, 4] rfl)
      obtain ⟨rv, v9, hK, hle_u, w9⟩ := t_G_ofBits_L47 l Z u0 x0 x1 x2 x3 x4 y4 hx7 n5 (0 : Int32) u k
      refine ⟨rv, v9, hK, hle_u, ?_⟩
      intro p e s m args below meth c A H locs ls F hw hl
      obtain ⟨⟨hx, hb, hml, hown, hts⟩, hr, hlocks, hmn⟩ := id F
      refine lv_iload hx hb d_G_ofBits_27 (lv_at hl 4 rfl) ?_
      refine lv_iload_n hx hb d_G_ofBits_29 rfl (lv_at hl 2 rfl) ?_
      refine lv_icmp_ge (tgt := 111) hx hb d_G_ofBits_30 (by decide) (fun c9 => absurd c9 hc1) (fun _ => ?_)
      refine lv_iconst (v := 1) hx hb d_G_ofBits_33 (by decide) ?_
      refine lv_aload_n hx hb d_G_ofBits_34 rfl (lv_at hl 0 rfl) ?_
      refine xr_get hx hb hts (xmu uws_G) hown hw h2 rfl (by decide) (hts _ (xm w_125)) (fun _ h9 => h9) d_G_ofBits_35 ?_
      refine lv_iload hx hb d_G_ofBits_38 (lv_at hl 4 rfl) ?_
      refine xr_iald hx hb hw h3 d_G_ofBits_40 ?_
      refine lv_ishl hx hb d_G_ofBits_41 ?_
      refine lv_istore (lv' := [(5, .int y4), (0, .ref x0), (1, .int x1), (2, .int x2), (3, .int x3), (4, .int x4)]) hx hb d_G_ofBits_42 hl (by decide) (by subst ey4; rfl) (fun ls hl => ?_)
      refine lv_iconst (v := 0) hx hb d_G_ofBits_44 (by decide) ?_
      refine lv_istore (lv' := [(6, .int 0), (5, .int y4), (0, .ref x0), (1, .int x1), (2, .int x2), (3, .int x3), (4, .int x4)]) hx hb d_G_ofBits_45 hl (by decide) rfl (fun ls hl => ?_)
      exact w9 p e s m args below meth c A H locs ls F hw (lv_sub hl [2, 3, 4, 5, 6, 1, 0] rfl)
set_option maxRecDepth 100000 in
set_option maxHeartbeats 4000000 in
theorem t_G_ofBits_J111 (l : Launch) (Z : XZ) (u0 : PS) {K : Int32 → PS → Prop} (x0 : Nat) (x2 : Int32) (u : PS) (k : (p_G_ofBits_J111 K x0 x2 u)) : XN l Z i_G_ofBits u0 (kI K) u 111 [(0, .ref x0), (2, .int x2)] [] := by
  unfold p_G_ofBits_J111 at k
  obtain ⟨z_49, h1, k⟩ := k
  obtain ⟨h3, k⟩ := k
  obtain ⟨_, u_50, ⟨r_51, rfl, k⟩, hM2⟩ := c_G_folded l Z x0 z_49 (0 : Int32) x2 u _ k
  have hle_u_50 : x_le u_50 u_50 := x_le.rf u_50
  have hle_u : x_le u u_50 := (hM2.1).tr hle_u_50
  refine ⟨some (.int r_51), u_50, ⟨r_51, rfl, k⟩, hle_u, ?_⟩
  intro p e s m args below meth c A H locs ls F hw hl
  obtain ⟨⟨hx, hb, hml, hown, hts⟩, hr, hlocks, hmn⟩ := id F
  refine lv_aload_n hx hb d_G_ofBits_111 rfl (lv_at hl 0 rfl) ?_
  refine lv_aload_n hx hb d_G_ofBits_112 rfl (lv_at hl 0 rfl) ?_
  refine xr_get hx hb hts (xmu uws_G) hown hw h1 rfl (by decide) (hts _ (xm w_127)) (fun _ h9 => h9) d_G_ofBits_113 ?_
  refine lv_iconst (v := 0) hx hb d_G_ofBits_116 (by decide) ?_
  refine lv_iload_n hx hb d_G_ofBits_117 rfl (lv_at hl 1 rfl) ?_
  refine xr_cV (As := [.ref z_49, .int 0, .int x2]) (rest := []) ⟨hx, hb, hml, hown, hts⟩ hw hM2 hle_u_50 (fun _ _ => ⟨callB_of 3 hts (xgood w_333) rfl rfl rfl (hts _ (xm w_6)) (hts _ (xm w_330)) ⟨by decide, by decide, by decide +kernel⟩ ⟨Nat.le_of_ble_eq_true rfl, Nat.le_of_ble_eq_true rfl⟩, (hts _ (xm w_332)), (hts _ (xm wp_7))⟩) (qc := (R_G, F_G, 10)) rfl rfl h3 rfl hl.1 rfl (Nat.le_of_ble_eq_true rfl) d_G_ofBits_118 (fun H locs hw => ?_)
  refine W.eq (g2 := F0 m 121 ls [.int r_51]) rfl ?_
  exact xr_iret F rfl hw d_G_ofBits_121
set_option maxRecDepth 100000 in
set_option maxHeartbeats 4000000 in
theorem c_G_ofBits (l : Launch) (Z : XZ) (x0 : Nat) (x1 : Int32) (x2 : Int32) (u : PS) (K : Int32 → PS → Prop) (k : p_G_ofBits x0 x1 x2 u K) : ∃ (rv : Option Value) (u1 : PS), (kI K) rv u1 ∧ XMet l Z i_G_ofBits [.ref x0, .int x1, .int x2] u rv u1 := by
  refine x_met (by decide) rfl (Nat.le_of_ble_eq_true rfl) ?_
  show XN l Z i_G_ofBits u (kI K) u 0 [(0, .ref x0), (1, .int x1), (2, .int x2)] []
  unfold p_G_ofBits at k
  obtain ⟨z_31, h1, k⟩ := k
  obtain ⟨u_32, h2, k⟩ := k
  obtain ⟨z_33, h3, k⟩ := k
  obtain ⟨z_34, h4, k⟩ := k
  obtain ⟨h6, k⟩ := k
  obtain ⟨_, u_35, ⟨r_36, rfl, k⟩, hM5⟩ := c_F_bit l Z z_34 x1 (0 : Int32) u_32 _ k
  obtain ⟨u_37, h7, k⟩ := k
  obtain ⟨n8, k⟩ := k
  have hx10 : ∀ (v9 : PS), (p_G_ofBits_J111 K x0 x2 v9) → XN l Z i_G_ofBits u (kI K) v9 111 [(0, .ref x0), (2, .int x2)] [] := by
    intro v9 k
    obtain ⟨rv, v9, hK, hle_v9, w9⟩ := t_G_ofBits_J111 l Z u x0 x2 v9 k
    refine ⟨rv, v9, hK, hle_v9, ?_⟩
    intro p e s m args below meth c A H locs ls F hw hl
    obtain ⟨⟨hx, hb, hml, hown, hts⟩, hr, hlocks, hmn⟩ := id F
    exact w9 p e s m args below meth c A H locs ls F hw (lv_sub hl [0, 1] rfl)
  obtain ⟨rv, v9, hK, hle_u_37, w9⟩ := t_G_ofBits_L27 l Z u x0 x1 x2 hx10 n8 (1 : Int32) (0 : Int32) u_37 k
  have hle_u_35 : x_le u_35 v9 := (h7.le).tr hle_u_37
  have hle_u_32 : x_le u_32 v9 := (hM5.1).tr hle_u_35
  have hle_u : x_le u v9 := (h2.le).tr hle_u_32
  refine ⟨rv, v9, hK, hle_u, ?_⟩
  intro p e s m args below meth c A H locs ls F hw hl
  obtain ⟨⟨hx, hb, hml, hown, hts⟩, hr, hlocks, hmn⟩ := id F
  refine lv_aload_n hx hb d_G_ofBits_0 rfl (lv_at hl 0 rfl) ?_
  refine xr_get hx hb hts (xmu uws_G) hown hw h1 rfl (by decide) (hts _ (xm w_126)) (fun _ h9 => h9) d_G_ofBits_1 ?_
  refine lv_iconst (v := 0) hx hb d_G_ofBits_4 (by decide) ?_
  refine lv_iconst (v := 0) hx hb d_G_ofBits_5 (by decide) ?_
  refine xr_iast hx hb hw h2 d_G_ofBits_6 (fun H locs hw => ?_)
  refine lv_aload_n hx hb d_G_ofBits_7 rfl (lv_at hl 0 rfl) ?_
  refine xr_get hx hb hts (xmu uws_G) hown hw h3 rfl (by decide) (hts _ (xm w_127)) (fun _ h9 => h9) d_G_ofBits_8 ?_
  refine lv_iconst (v := 0) hx hb d_G_ofBits_11 (by decide) ?_
  refine lv_aload_n hx hb d_G_ofBits_12 rfl (lv_at hl 0 rfl) ?_
  refine xr_get hx hb hts (xmu uws_G) hown hw h4 rfl (by decide) (hts _ (xm w_123)) (fun _ h9 => h9) d_G_ofBits_13 ?_
  refine lv_iload_n hx hb d_G_ofBits_16 rfl (lv_at hl 1 rfl) ?_
  refine lv_iconst (v := 0) hx hb d_G_ofBits_17 (by decide) ?_
  refine xr_cV (As := [.int x1, .int 0]) (rest := [.int 0, .ref z_33]) ⟨hx, hb, hml, hown, hts⟩ hw hM5 hle_u_35 (fun _ _ => ⟨callB_of 2 hts (xgood w_284) rfl rfl rfl (hts _ (xm w_2)) (hts _ (xm w_281)) ⟨by decide, by decide, by decide +kernel⟩ ⟨Nat.le_of_ble_eq_true rfl, Nat.le_of_ble_eq_true rfl⟩, (hts _ (xm w_282)), (hts _ (xm w_283))⟩) (qc := (R_F, F_F, 5)) rfl rfl h6 rfl hl.1 rfl (Nat.le_of_ble_eq_true rfl) d_G_ofBits_18 (fun H locs hw => ?_)
  refine W.eq (g2 := F0 m 21 ls [.int r_36, .int 0, .ref z_33]) rfl ?_
  refine xr_iast hx hb hw h7 d_G_ofBits_21 (fun H locs hw => ?_)
  refine lv_iconst (v := 1) hx hb d_G_ofBits_22 (by decide) ?_
  refine lv_istore_n (lv' := [(3, .int 1), (0, .ref x0), (1, .int x1), (2, .int x2)]) hx hb d_G_ofBits_23 rfl hl (by decide) rfl (fun ls hl => ?_)
  refine lv_iconst (v := 0) hx hb d_G_ofBits_24 (by decide) ?_
  refine lv_istore (lv' := [(4, .int 0), (3, .int 1), (0, .ref x0), (1, .int x1), (2, .int x2)]) hx hb d_G_ofBits_25 hl (by decide) rfl (fun ls hl => ?_)
  exact w9 p e s m args below meth c A H locs ls F hw (lv_sub hl [2, 3, 4, 1, 0] rfl)
set_option maxRecDepth 100000 in
set_option maxHeartbeats 4000000 in
theorem t_G_exchangeWithinWords_L28 (l : Launch) (Z : XZ) (u0 : PS) {Kv : Option Value → PS → Prop} {E80 : PS → Prop} (x0 : Nat) (x3 : Int64) (x5 : Int32) (hE80 : ∀ (v : PS), E80 v → XN l Z i_G_exchangeWithinWords u0 Kv v 80 [] []) : ∀ (n : Nat) (x6 : Int32) (u : PS), p_G_exchangeWithinWords_L28 x0 x3 x5 E80 n x6 u → XN l Z i_G_exchangeWithinWords u0 Kv u 28 [(0, .ref x0), (3, .long x3), (5, .int x5), (6, .int x6)] [] := by
  intro n
  induction n with
  | zero => intro x6 u k; exact False.elim k
  | succ n ih =>
    intro x6 u k
    rw [p_G_exchangeWithinWords_L28] at k
    by_cases hc1 : 16 ≤ x6
    · have k := k.1 hc1
      obtain ⟨rv, v9, hK, hle_u, w9⟩ := hE80 u k
      refine ⟨rv, v9, hK, hle_u, ?_⟩
      intro p e s m args below meth c A H locs ls F hw hl
      obtain ⟨⟨hx, hb, hml, hown, hts⟩, hr, hlocks, hmn⟩ := id F
      refine lv_iload hx hb d_G_exchangeWithinWords_28 (lv_at hl 3 rfl) ?_
      refine lv_bipush (v := 16) hx hb d_G_exchangeWithinWords_30 (by decide) ?_
      refine lv_icmp_ge (tgt := 80) hx hb d_G_exchangeWithinWords_32 (by decide) (fun _ => ?_) (fun c9 => absurd hc1 c9)
      exact w9 p e s m args below meth c A H locs ls F hw (lv_sub hl [] rfl)
    · have k := k.2 hc1
      obtain ⟨z_15, h2, k⟩ := k
      obtain ⟨z_16, h3, k⟩ := k
      obtain ⟨y4, ey4⟩ : ∃ y9 : Int64, y9 = ((((z_16.toUInt64 >>> (x5.toInt64.toUInt64 &&& Int64.toUInt64 63)).toInt64) ^^^ z_16) &&& x3) := ⟨_, rfl⟩
      have k := k y4 ey4
      obtain ⟨z_17, h5, k⟩ := k
      obtain ⟨u_18, h6, k⟩ := k
      obtain ⟨y7, ey7⟩ : ∃ y9 : Int32, y9 = x6 + 1 := ⟨_, rfl⟩
      have k := k y7 ey7
      obtain ⟨rv, v9, hK, hle_u_18, w9⟩ := ih y7 u_18 k
      have hle_u : x_le u v9 := (h6.le).tr hle_u_18
      refine ⟨rv, v9, hK, hle_u, ?_⟩
      intro p e s m args below meth c A H locs ls F hw hl
      obtain ⟨⟨hx, hb, hml, hown, hts⟩, hr, hlocks, hmn⟩ := id F
      refine lv_iload hx hb d_G_exchangeWithinWords_28 (lv_at hl 3 rfl) ?_
      refine lv_bipush (v := 16) hx hb d_G_exchangeWithinWords_30 (by decide) ?_
      refine lv_icmp_ge (tgt := 80) hx hb d_G_exchangeWithinWords_32 (by decide) (fun c9 => absurd c9 hc1) (fun _ => ?_)
      refine lv_aload_n hx hb d_G_exchangeWithinWords_35 rfl (lv_at hl 0 rfl) ?_
      refine xr_get hx hb hts (xmu uws_G) hown hw h2 rfl (by decide) (hts _ (xm w_128)) (fun _ h9 => h9) d_G_exchangeWithinWords_36 ?_
      refine lv_iload hx hb d_G_exchangeWithinWords_39 (lv_at hl 3 rfl) ?_
      refine xr_lald hx hb hw h3 d_G_exchangeWithinWords_41 ?_
      refine lv_lstore (lv' := [(7, .long z_16), (0, .ref x0), (3, .long x3), (5, .int x5), (6, .int x6)]) hx hb d_G_exchangeWithinWords_42 hl (by decide) rfl (fun ls hl => ?_)
      refine lv_lload hx hb d_G_exchangeWithinWords_44 (lv_at hl 0 rfl) ?_
      refine lv_iload hx hb d_G_exchangeWithinWords_46 (lv_at hl 3 rfl) ?_
      refine lv_lushr hx hb d_G_exchangeWithinWords_48 rfl ?_
      refine lv_lload hx hb d_G_exchangeWithinWords_49 (lv_at hl 0 rfl) ?_
      refine lv_lxor hx hb d_G_exchangeWithinWords_51 ?_
      refine lv_lload_n hx hb d_G_exchangeWithinWords_52 rfl (lv_at hl 2 rfl) ?_
      refine lv_land hx hb d_G_exchangeWithinWords_53 ?_
      refine lv_lstore (lv' := [(9, .long y4), (7, .long z_16), (0, .ref x0), (3, .long x3), (5, .int x5), (6, .int x6)]) hx hb d_G_exchangeWithinWords_54 hl (by decide) (by subst ey4; rfl) (fun ls hl => ?_)
      refine lv_aload_n hx hb d_G_exchangeWithinWords_56 rfl (lv_at hl 2 rfl) ?_
      refine xr_get hx hb hts (xmu uws_G) hown hw h5 rfl (by decide) (hts _ (xm w_128)) (fun _ h9 => h9) d_G_exchangeWithinWords_57 ?_
      refine lv_iload hx hb d_G_exchangeWithinWords_60 (lv_at hl 5 rfl) ?_
      refine lv_lload hx hb d_G_exchangeWithinWords_62 (lv_at hl 1 rfl) ?_
      refine lv_lload hx hb d_G_exchangeWithinWords_64 (lv_at hl 0 rfl) ?_
      refine lv_lxor hx hb d_G_exchangeWithinWords_66 ?_
      refine lv_lload hx hb d_G_exchangeWithinWords_67 (lv_at hl 0 rfl) ?_
      refine lv_iload hx hb d_G_exchangeWithinWords_69 (lv_at hl 4 rfl) ?_
      refine lv_lshl hx hb d_G_exchangeWithinWords_71 rfl ?_
      refine lv_lxor hx hb d_G_exchangeWithinWords_72 ?_
      refine xr_last hx hb hw h6 d_G_exchangeWithinWords_73 (fun H locs hw => ?_)
      refine lv_iinc (v := y7) (lv' := [(6, .int y7), (9, .long y4), (7, .long z_16), (0, .ref x0), (3, .long x3), (5, .int x5)]) hx hb d_G_exchangeWithinWords_74 hl (k := 5) rfl (by subst ey7; rfl) (by decide) rfl (fun ls hl => ?_)
      refine lv_goto (tgt := 28) hx hb d_G_exchangeWithinWords_77 (by decide) ?_
      exact w9 p e s m args below meth c A H locs ls F hw (lv_sub hl [3, 4, 5, 0] rfl)
set_option maxRecDepth 100000 in
set_option maxHeartbeats 4000000 in
theorem c_G_exchangeWithinWords (l : Launch) (Z : XZ) (x0 : Nat) (x1 : Int32) (x2 : Int32) (u : PS) (K : PS → Prop) (k : p_G_exchangeWithinWords x0 x1 x2 u K) : ∃ (rv : Option Value) (u1 : PS), (kV K) rv u1 ∧ XMet l Z i_G_exchangeWithinWords [.ref x0, .int x1, .int x2] u rv u1 := by
  refine x_met (by decide) rfl (Nat.le_of_ble_eq_true rfl) ?_
  show XN l Z i_G_exchangeWithinWords u (kV K) u 0 [(0, .ref x0), (1, .int x1), (2, .int x2)] []
  unfold p_G_exchangeWithinWords at k
  obtain ⟨h1, k⟩ := k
  obtain ⟨h2, k⟩ := k
  obtain ⟨y3, ey3⟩ : ∃ y9 : Int64, y9 = ((tab_ONES x1.toNatClampNeg) &&& ((tab_ONES x2.toNatClampNeg) ^^^ (-1 : Int64))) := ⟨_, rfl⟩
  have k := k y3 ey3
  obtain ⟨y4, ey4⟩ : ∃ y9 : Int32, y9 = (((1 : Int32) <<< (x2 &&& 31)) - ((1 : Int32) <<< (x1 &&& 31))) := ⟨_, rfl⟩
  have k := k y4 ey4
  obtain ⟨n5, k⟩ := k
  have hx7 : ∀ (v6 : PS), (K v6) → XN l Z i_G_exchangeWithinWords u (kV K) v6 80 [] [] := by
    intro v6 k
    have hle_v6 : x_le v6 v6 := x_le.rf v6
    refine ⟨none, v6, ⟨rfl, k⟩, hle_v6, ?_⟩
    intro p e s m args below meth c A H locs ls F hw hl
    obtain ⟨⟨hx, hb, hml, hown, hts⟩, hr, hlocks, hmn⟩ := id F
    exact xr_vret F rfl hw d_G_exchangeWithinWords_80
  obtain ⟨rv, v9, hK, hle_u, w9⟩ := t_G_exchangeWithinWords_L28 l Z u x0 y3 y4 hx7 n5 (0 : Int32) u k
  refine ⟨rv, v9, hK, hle_u, ?_⟩
  intro p e s m args below meth c A H locs ls F hw hl
  obtain ⟨⟨hx, hb, hml, hown, hts⟩, hr, hlocks, hmn⟩ := id F
  refine va_gets hx hb (XG.z_ONES hw.2.2.2.2.2.1) hw.2.2.2.1 hown (hts _ (xm w_354)) (fun _ h9 => h9) d_G_exchangeWithinWords_0 ?_
  refine lv_iload_n hx hb d_G_exchangeWithinWords_3 rfl (lv_at hl 1 rfl) ?_
  refine va_tl hx hb (XG.t_ONES hw.2.2.2.2.2.1) hw.2.2.2.1 h1 rfl d_G_exchangeWithinWords_4 ?_
  refine va_gets hx hb (XG.z_ONES hw.2.2.2.2.2.1) hw.2.2.2.1 hown (hts _ (xm w_354)) (fun _ h9 => h9) d_G_exchangeWithinWords_5 ?_
  refine lv_iload_n hx hb d_G_exchangeWithinWords_8 rfl (lv_at hl 2 rfl) ?_
  refine va_tl hx hb (XG.t_ONES hw.2.2.2.2.2.1) hw.2.2.2.1 h2 rfl d_G_exchangeWithinWords_9 ?_
  refine lv_ldc2 (v := (-1)) hx hb hown (hts _ (xm w_355)) d_G_exchangeWithinWords_10 ?_
  refine lv_lxor hx hb d_G_exchangeWithinWords_13 ?_
  refine lv_land hx hb d_G_exchangeWithinWords_14 ?_
  refine lv_lstore_n (lv' := [(3, .long y3), (0, .ref x0), (1, .int x1), (2, .int x2)]) hx hb d_G_exchangeWithinWords_15 rfl hl (by decide) (by subst ey3; rfl) (fun ls hl => ?_)
  refine lv_iconst (v := 1) hx hb d_G_exchangeWithinWords_16 (by decide) ?_
  refine lv_iload_n hx hb d_G_exchangeWithinWords_17 rfl (lv_at hl 3 rfl) ?_
  refine lv_ishl hx hb d_G_exchangeWithinWords_18 ?_
  refine lv_iconst (v := 1) hx hb d_G_exchangeWithinWords_19 (by decide) ?_
  refine lv_iload_n hx hb d_G_exchangeWithinWords_20 rfl (lv_at hl 2 rfl) ?_
  refine lv_ishl hx hb d_G_exchangeWithinWords_21 ?_
  refine lv_isub hx hb d_G_exchangeWithinWords_22 ?_
  refine lv_istore (lv' := [(5, .int y4), (3, .long y3), (0, .ref x0), (1, .int x1), (2, .int x2)]) hx hb d_G_exchangeWithinWords_23 hl (by decide) (by subst ey4; rfl) (fun ls hl => ?_)
  refine lv_iconst (v := 0) hx hb d_G_exchangeWithinWords_25 (by decide) ?_
  refine lv_istore (lv' := [(6, .int 0), (5, .int y4), (3, .long y3), (0, .ref x0), (1, .int x1), (2, .int x2)]) hx hb d_G_exchangeWithinWords_26 hl (by decide) rfl (fun ls hl => ?_)
  exact w9 p e s m args below meth c A H locs ls F hw (lv_sub hl [3, 2, 1, 0] rfl)
set_option maxRecDepth 100000 in
set_option maxHeartbeats 4000000 in
theorem t_G_exchangeAcrossWords_L18 (l : Launch) (Z : XZ) (u0 : PS) {Kv : Option Value → PS → Prop} {E93 : PS → Prop} (x0 : Nat) (x2 : Int32) (x3 : Int64) (x5 : Int32) (hE93 : ∀ (v : PS), E93 v → XN l Z i_G_exchangeAcrossWords u0 Kv v 93 [] []) : ∀ (n : Nat) (x6 : Int32) (u : PS), p_G_exchangeAcrossWords_L18 x0 x2 x3 x5 E93 n x6 u → XN l Z i_G_exchangeAcrossWords u0 Kv u 18 [(0, .ref x0), (2, .int x2), (3, .long x3), (5, .int x5), (6, .int x6)] [] := by
  intro n
  induction n with
  | zero => intro x6 u k; exact False.elim k
  | succ n ih =>
    intro x6 u k
    rw [p_G_exchangeAcrossWords_L18] at k
    by_cases hc1 : 16 ≤ x6
    · have k := k.1 hc1
      obtain ⟨rv, v9, hK, hle_u, w9⟩ := hE93 u k
      refine ⟨rv, v9, hK, hle_u, ?_⟩
      intro p e s m args below meth c A H locs ls F hw hl
      obtain ⟨⟨hx, hb, hml, hown, hts⟩, hr, hlocks, hmn⟩ := id F
      refine lv_iload hx hb d_G_exchangeAcrossWords_18 (lv_at hl 4 rfl) ?_
      refine lv_bipush (v := 16) hx hb d_G_exchangeAcrossWords_20 (by decide) ?_
      refine lv_icmp_ge (tgt := 93) hx hb d_G_exchangeAcrossWords_22 (by decide) (fun _ => ?_) (fun c9 => absurd hc1 c9)
      exact w9 p e s m args below meth c A H locs ls F hw (lv_sub hl [] rfl)
    · have k := k.2 hc1
      obtain ⟨z_19, h2, k⟩ := k
      obtain ⟨z_20, h3, k⟩ := k
      obtain ⟨z_21, h4, k⟩ := k
      obtain ⟨z_22, h5, k⟩ := k
      obtain ⟨y6, ey6⟩ : ∃ y9 : Int64, y9 = ((((z_20.toUInt64 >>> (x5.toInt64.toUInt64 &&& Int64.toUInt64 63)).toInt64) ^^^ z_22) &&& x3) := ⟨_, rfl⟩
      have k := k y6 ey6
      obtain ⟨z_23, h7, k⟩ := k
      obtain ⟨z_24, h8, k⟩ := k
      obtain ⟨u_25, h9, k⟩ := k
      obtain ⟨z_26, h10, k⟩ := k
      obtain ⟨z_27, h11, k⟩ := k
      obtain ⟨u_28, h12, k⟩ := k
      obtain ⟨y13, ey13⟩ : ∃ y9 : Int32, y9 = (((x6 ||| x2) + (1 : Int32)) &&& (x2 ^^^ (-1 : Int32))) := ⟨_, rfl⟩
      have k := k y13 ey13
      obtain ⟨rv, v9, hK, hle_u_28, w9⟩ := ih y13 u_28 k
      have hle_u_25 : x_le u_25 v9 := (h12.le).tr hle_u_28
      have hle_u : x_le u v9 := (h9.le).tr hle_u_25
      refine ⟨rv, v9, hK, hle_u, ?_⟩
      intro p e s m args below meth c A H locs ls F hw hl
      obtain ⟨⟨hx, hb, hml, hown, hts⟩, hr, hlocks, hmn⟩ := id F
      refine lv_iload hx hb d_G_exchangeAcrossWords_18 (lv_at hl 4 rfl) ?_
      refine lv_bipush (v := 16) hx hb d_G_exchangeAcrossWords_20 (by decide) ?_
      refine lv_icmp_ge (tgt := 93) hx hb d_G_exchangeAcrossWords_22 (by decide) (fun c9 => absurd c9 hc1) (fun _ => ?_)
      refine lv_aload_n hx hb d_G_exchangeAcrossWords_25 rfl (lv_at hl 0 rfl) ?_
      refine xr_get hx hb hts (xmu uws_G) hown hw h2 rfl (by decide) (hts _ (xm w_128)) (fun _ h9 => h9) d_G_exchangeAcrossWords_26 ?_
      refine lv_iload hx hb d_G_exchangeAcrossWords_29 (lv_at hl 4 rfl) ?_
      refine xr_lald hx hb hw h3 d_G_exchangeAcrossWords_31 ?_
      refine lv_iload hx hb d_G_exchangeAcrossWords_32 (lv_at hl 3 rfl) ?_
      refine lv_lushr hx hb d_G_exchangeAcrossWords_34 rfl ?_
      refine lv_aload_n hx hb d_G_exchangeAcrossWords_35 rfl (lv_at hl 0 rfl) ?_
      refine xr_get hx hb hts (xmu uws_G) hown hw h4 rfl (by decide) (hts _ (xm w_128)) (fun _ h9 => h9) d_G_exchangeAcrossWords_36 ?_
      refine lv_iload hx hb d_G_exchangeAcrossWords_39 (lv_at hl 4 rfl) ?_
      refine lv_iload_n hx hb d_G_exchangeAcrossWords_41 rfl (lv_at hl 1 rfl) ?_
      refine lv_ior hx hb d_G_exchangeAcrossWords_42 ?_
      refine xr_lald hx hb hw h5 d_G_exchangeAcrossWords_43 ?_
      refine lv_lxor hx hb d_G_exchangeAcrossWords_44 ?_
      refine lv_lload_n hx hb d_G_exchangeAcrossWords_45 rfl (lv_at hl 2 rfl) ?_
      refine lv_land hx hb d_G_exchangeAcrossWords_46 ?_
      refine lv_lstore (lv' := [(7, .long y6), (0, .ref x0), (2, .int x2), (3, .long x3), (5, .int x5), (6, .int x6)]) hx hb d_G_exchangeAcrossWords_47 hl (by decide) (by subst ey6; rfl) (fun ls hl => ?_)
      refine lv_aload_n hx hb d_G_exchangeAcrossWords_49 rfl (lv_at hl 1 rfl) ?_
      refine xr_get hx hb hts (xmu uws_G) hown hw h7 rfl (by decide) (hts _ (xm w_128)) (fun _ h9 => h9) d_G_exchangeAcrossWords_50 ?_
      refine lv_iload hx hb d_G_exchangeAcrossWords_53 (lv_at hl 5 rfl) ?_
      refine lv_dup2_11 hx hb d_G_exchangeAcrossWords_55 rfl rfl ?_
      refine xr_lald hx hb hw h8 d_G_exchangeAcrossWords_56 ?_
      refine lv_lload hx hb d_G_exchangeAcrossWords_57 (lv_at hl 0 rfl) ?_
      refine lv_iload hx hb d_G_exchangeAcrossWords_59 (lv_at hl 4 rfl) ?_
      refine lv_lshl hx hb d_G_exchangeAcrossWords_61 rfl ?_
      refine lv_lxor hx hb d_G_exchangeAcrossWords_62 ?_
      refine xr_last hx hb hw h9 d_G_exchangeAcrossWords_63 (fun H locs hw => ?_)
      refine lv_aload_n hx hb d_G_exchangeAcrossWords_64 rfl (lv_at hl 1 rfl) ?_
      refine xr_get hx hb hts (xmu uws_G) hown hw h10 rfl (by decide) (hts _ (xm w_128)) (fun _ h9 => h9) d_G_exchangeAcrossWords_65 ?_
      refine lv_iload hx hb d_G_exchangeAcrossWords_68 (lv_at hl 5 rfl) ?_
      refine lv_iload_n hx hb d_G_exchangeAcrossWords_70 rfl (lv_at hl 2 rfl) ?_
      refine lv_ior hx hb d_G_exchangeAcrossWords_71 ?_
      refine lv_dup2_11 hx hb d_G_exchangeAcrossWords_72 rfl rfl ?_
      refine xr_lald hx hb hw h11 d_G_exchangeAcrossWords_73 ?_
      refine lv_lload hx hb d_G_exchangeAcrossWords_74 (lv_at hl 0 rfl) ?_
      refine lv_lxor hx hb d_G_exchangeAcrossWords_76 ?_
      refine xr_last hx hb hw h12 d_G_exchangeAcrossWords_77 (fun H locs hw => ?_)
      refine lv_iload hx hb d_G_exchangeAcrossWords_78 (lv_at hl 5 rfl) ?_
      refine lv_iload_n hx hb d_G_exchangeAcrossWords_80 rfl (lv_at hl 2 rfl) ?_
      refine lv_ior hx hb d_G_exchangeAcrossWords_81 ?_
      refine lv_iconst (v := 1) hx hb d_G_exchangeAcrossWords_82 (by decide) ?_
      refine lv_iadd hx hb d_G_exchangeAcrossWords_83 ?_
      refine lv_iload_n hx hb d_G_exchangeAcrossWords_84 rfl (lv_at hl 2 rfl) ?_
      refine lv_iconst (v := (-1)) hx hb d_G_exchangeAcrossWords_85 (by decide) ?_
      refine lv_ixor hx hb d_G_exchangeAcrossWords_86 ?_
      refine lv_iand hx hb d_G_exchangeAcrossWords_87 ?_
      refine lv_istore (lv' := [(6, .int y13), (7, .long y6), (0, .ref x0), (2, .int x2), (3, .long x3), (5, .int x5)]) hx hb d_G_exchangeAcrossWords_88 hl (by decide) (by subst ey13; rfl) (fun ls hl => ?_)
      refine lv_goto (tgt := 18) hx hb d_G_exchangeAcrossWords_90 (by decide) ?_
      exact w9 p e s m args below meth c A H locs ls F hw (lv_sub hl [2, 3, 4, 5, 0] rfl)
set_option maxRecDepth 100000 in
set_option maxHeartbeats 4000000 in
theorem c_G_exchangeAcrossWords (l : Launch) (Z : XZ) (x0 : Nat) (x1 : Int32) (x2 : Int32) (u : PS) (K : PS → Prop) (k : p_G_exchangeAcrossWords x0 x1 x2 u K) : ∃ (rv : Option Value) (u1 : PS), (kV K) rv u1 ∧ XMet l Z i_G_exchangeAcrossWords [.ref x0, .int x1, .int x2] u rv u1 := by
  refine x_met (by decide) rfl (Nat.le_of_ble_eq_true rfl) ?_
  show XN l Z i_G_exchangeAcrossWords u (kV K) u 0 [(0, .ref x0), (1, .int x1), (2, .int x2)] []
  unfold p_G_exchangeAcrossWords at k
  obtain ⟨h1, k⟩ := k
  obtain ⟨y2, ey2⟩ : ∃ y9 : Int64, y9 = ((tab_ONES x1.toNatClampNeg) ^^^ (-1 : Int64)) := ⟨_, rfl⟩
  have k := k y2 ey2
  obtain ⟨y3, ey3⟩ : ∃ y9 : Int32, y9 = ((1 : Int32) <<< (x1 &&& 31)) := ⟨_, rfl⟩
  have k := k y3 ey3
  obtain ⟨n4, k⟩ := k
  have hx6 : ∀ (v5 : PS), (K v5) → XN l Z i_G_exchangeAcrossWords u (kV K) v5 93 [] [] := by
    intro v5 k
    have hle_v5 : x_le v5 v5 := x_le.rf v5
    refine ⟨none, v5, ⟨rfl, k⟩, hle_v5, ?_⟩
    intro p e s m args below meth c A H locs ls F hw hl
    obtain ⟨⟨hx, hb, hml, hown, hts⟩, hr, hlocks, hmn⟩ := id F
    exact xr_vret F rfl hw d_G_exchangeAcrossWords_93
  obtain ⟨rv, v9, hK, hle_u, w9⟩ := t_G_exchangeAcrossWords_L18 l Z u x0 x2 y2 y3 hx6 n4 (0 : Int32) u k
  refine ⟨rv, v9, hK, hle_u, ?_⟩
  intro p e s m args below meth c A H locs ls F hw hl
  obtain ⟨⟨hx, hb, hml, hown, hts⟩, hr, hlocks, hmn⟩ := id F
  refine va_gets hx hb (XG.z_ONES hw.2.2.2.2.2.1) hw.2.2.2.1 hown (hts _ (xm w_354)) (fun _ h9 => h9) d_G_exchangeAcrossWords_0 ?_
  refine lv_iload_n hx hb d_G_exchangeAcrossWords_3 rfl (lv_at hl 1 rfl) ?_
  refine va_tl hx hb (XG.t_ONES hw.2.2.2.2.2.1) hw.2.2.2.1 h1 rfl d_G_exchangeAcrossWords_4 ?_
  refine lv_ldc2 (v := (-1)) hx hb hown (hts _ (xm w_355)) d_G_exchangeAcrossWords_5 ?_
  refine lv_lxor hx hb d_G_exchangeAcrossWords_8 ?_
  refine lv_lstore_n (lv' := [(3, .long y2), (0, .ref x0), (1, .int x1), (2, .int x2)]) hx hb d_G_exchangeAcrossWords_9 rfl hl (by decide) (by subst ey2; rfl) (fun ls hl => ?_)
  refine lv_iconst (v := 1) hx hb d_G_exchangeAcrossWords_10 (by decide) ?_
  refine lv_iload_n hx hb d_G_exchangeAcrossWords_11 rfl (lv_at hl 2 rfl) ?_
  refine lv_ishl hx hb d_G_exchangeAcrossWords_12 ?_
  refine lv_istore (lv' := [(5, .int y3), (3, .long y2), (0, .ref x0), (1, .int x1), (2, .int x2)]) hx hb d_G_exchangeAcrossWords_13 hl (by decide) (by subst ey3; rfl) (fun ls hl => ?_)
  refine lv_iconst (v := 0) hx hb d_G_exchangeAcrossWords_15 (by decide) ?_
  refine lv_istore (lv' := [(6, .int 0), (5, .int y3), (3, .long y2), (0, .ref x0), (1, .int x1), (2, .int x2)]) hx hb d_G_exchangeAcrossWords_16 hl (by decide) rfl (fun ls hl => ?_)
  exact w9 p e s m args below meth c A H locs ls F hw (lv_sub hl [3, 5, 2, 1, 0] rfl)
set_option maxRecDepth 100000 in
set_option maxHeartbeats 4000000 in
theorem t_G_exchangeWords_L7 (l : Launch) (Z : XZ) (u0 : PS) {Kv : Option Value → PS → Prop} {E69 : PS → Prop} (x0 : Nat) (x1 : Int32) (x2 : Int32) (x3 : Int32) (hE69 : ∀ (v : PS), E69 v → XN l Z i_G_exchangeWords u0 Kv v 69 [] []) : ∀ (n : Nat) (x4 : Int32) (u : PS), p_G_exchangeWords_L7 x0 x1 x2 x3 E69 n x4 u → XN l Z i_G_exchangeWords u0 Kv u 7 [(0, .ref x0), (1, .int x1), (2, .int x2), (3, .int x3), (4, .int x4)] [] := by
  intro n
  induction n with
  | zero => intro x4 u k; exact False.elim k
  | succ n ih =>
    intro x4 u k
    rw [p_G_exchangeWords_L7] at k
    by_cases hc1 : 16 ≤ x4
    · have k := k.1 hc1
      obtain ⟨rv, v9, hK, hle_u, w9⟩ := hE69 u k
      refine ⟨rv, v9, hK, hle_u, ?_⟩
      intro p e s m args below meth c A H locs ls F hw hl
      obtain ⟨⟨hx, hb, hml, hown, hts⟩, hr, hlocks, hmn⟩ := id F
      refine lv_iload hx hb d_G_exchangeWords_7 (lv_at hl 4 rfl) ?_
      refine lv_bipush (v := 16) hx hb d_G_exchangeWords_9 (by decide) ?_
      refine lv_icmp_ge (tgt := 69) hx hb d_G_exchangeWords_11 (by decide) (fun _ => ?_) (fun c9 => absurd hc1 c9)
      exact w9 p e s m args below meth c A H locs ls F hw (lv_sub hl [] rfl)
    · have k := k.2 hc1
      obtain ⟨z_13, h2, k⟩ := k
      obtain ⟨z_14, h3, k⟩ := k
      obtain ⟨z_15, h4, k⟩ := k
      obtain ⟨z_16, h5, k⟩ := k
      obtain ⟨z_17, h6, k⟩ := k
      obtain ⟨u_18, h7, k⟩ := k
      obtain ⟨z_19, h8, k⟩ := k
      obtain ⟨u_20, h9, k⟩ := k
      obtain ⟨y10, ey10⟩ : ∃ y9 : Int32, y9 = (((x4 ||| x3) + (1 : Int32)) &&& (x3 ^^^ (-1 : Int32))) := ⟨_, rfl⟩
      have k := k y10 ey10
      obtain ⟨rv, v9, hK, hle_u_20, w9⟩ := ih y10 u_20 k
      have hle_u_18 : x_le u_18 v9 := (h9.le).tr hle_u_20
      have hle_u : x_le u v9 := (h7.le).tr hle_u_18
      refine ⟨rv, v9, hK, hle_u, ?_⟩
      intro p e s m args below meth c A H locs ls F hw hl
      obtain ⟨⟨hx, hb, hml, hown, hts⟩, hr, hlocks, hmn⟩ := id F
      refine lv_iload hx hb d_G_exchangeWords_7 (lv_at hl 4 rfl) ?_
      refine lv_bipush (v := 16) hx hb d_G_exchangeWords_9 (by decide) ?_
      refine lv_icmp_ge (tgt := 69) hx hb d_G_exchangeWords_11 (by decide) (fun c9 => absurd c9 hc1) (fun _ => ?_)
      refine lv_aload_n hx hb d_G_exchangeWords_14 rfl (lv_at hl 0 rfl) ?_
      refine xr_get hx hb hts (xmu uws_G) hown hw h2 rfl (by decide) (hts _ (xm w_128)) (fun _ h9 => h9) d_G_exchangeWords_15 ?_
      refine lv_iload hx hb d_G_exchangeWords_18 (lv_at hl 4 rfl) ?_
      refine lv_iload_n hx hb d_G_exchangeWords_20 rfl (lv_at hl 1 rfl) ?_
      refine lv_ior hx hb d_G_exchangeWords_21 ?_
      refine xr_lald hx hb hw h3 d_G_exchangeWords_22 ?_
      refine lv_lstore (lv' := [(5, .long z_14), (0, .ref x0), (1, .int x1), (2, .int x2), (3, .int x3), (4, .int x4)]) hx hb d_G_exchangeWords_23 hl (by decide) rfl (fun ls hl => ?_)
      refine lv_aload_n hx hb d_G_exchangeWords_25 rfl (lv_at hl 1 rfl) ?_
      refine xr_get hx hb hts (xmu uws_G) hown hw h4 rfl (by decide) (hts _ (xm w_128)) (fun _ h9 => h9) d_G_exchangeWords_26 ?_
      refine lv_iload hx hb d_G_exchangeWords_29 (lv_at hl 5 rfl) ?_
      refine lv_iload_n hx hb d_G_exchangeWords_31 rfl (lv_at hl 2 rfl) ?_
      refine lv_ior hx hb d_G_exchangeWords_32 ?_
      refine lv_aload_n hx hb d_G_exchangeWords_33 rfl (lv_at hl 1 rfl) ?_
      refine xr_get hx hb hts (xmu uws_G) hown hw h5 rfl (by decide) (hts _ (xm w_128)) (fun _ h9 => h9) d_G_exchangeWords_34 ?_
      refine lv_iload hx hb d_G_exchangeWords_37 (lv_at hl 5 rfl) ?_
      refine lv_iload_n hx hb d_G_exchangeWords_39 rfl (lv_at hl 3 rfl) ?_
      refine lv_ior hx hb d_G_exchangeWords_40 ?_
      refine xr_lald hx hb hw h6 d_G_exchangeWords_41 ?_
      refine xr_last hx hb hw h7 d_G_exchangeWords_42 (fun H locs hw => ?_)
      refine lv_aload_n hx hb d_G_exchangeWords_43 rfl (lv_at hl 1 rfl) ?_
      refine xr_get hx hb hts (xmu uws_G) hown hw h8 rfl (by decide) (hts _ (xm w_128)) (fun _ h9 => h9) d_G_exchangeWords_44 ?_
      refine lv_iload hx hb d_G_exchangeWords_47 (lv_at hl 5 rfl) ?_
      refine lv_iload_n hx hb d_G_exchangeWords_49 rfl (lv_at hl 3 rfl) ?_
      refine lv_ior hx hb d_G_exchangeWords_50 ?_
      refine lv_lload hx hb d_G_exchangeWords_51 (lv_at hl 0 rfl) ?_
      refine xr_last hx hb hw h9 d_G_exchangeWords_53 (fun H locs hw => ?_)
      refine lv_iload hx hb d_G_exchangeWords_54 (lv_at hl 5 rfl) ?_
      refine lv_iload_n hx hb d_G_exchangeWords_56 rfl (lv_at hl 4 rfl) ?_
      refine lv_ior hx hb d_G_exchangeWords_57 ?_
      refine lv_iconst (v := 1) hx hb d_G_exchangeWords_58 (by decide) ?_
      refine lv_iadd hx hb d_G_exchangeWords_59 ?_
      refine lv_iload_n hx hb d_G_exchangeWords_60 rfl (lv_at hl 4 rfl) ?_
      refine lv_iconst (v := (-1)) hx hb d_G_exchangeWords_61 (by decide) ?_
      refine lv_ixor hx hb d_G_exchangeWords_62 ?_
      refine lv_iand hx hb d_G_exchangeWords_63 ?_
      refine lv_istore (lv' := [(4, .int y10), (5, .long z_14), (0, .ref x0), (1, .int x1), (2, .int x2), (3, .int x3)]) hx hb d_G_exchangeWords_64 hl (by decide) (by subst ey10; rfl) (fun ls hl => ?_)
      refine lv_goto (tgt := 7) hx hb d_G_exchangeWords_66 (by decide) ?_
      exact w9 p e s m args below meth c A H locs ls F hw (lv_sub hl [2, 3, 4, 5, 0] rfl)
set_option maxRecDepth 100000 in
set_option maxHeartbeats 4000000 in
theorem c_G_exchangeWords (l : Launch) (Z : XZ) (x0 : Nat) (x1 : Int32) (x2 : Int32) (u : PS) (K : PS → Prop) (k : p_G_exchangeWords x0 x1 x2 u K) : ∃ (rv : Option Value) (u1 : PS), (kV K) rv u1 ∧ XMet l Z i_G_exchangeWords [.ref x0, .int x1, .int x2] u rv u1 := by
  refine x_met (by decide) rfl (Nat.le_of_ble_eq_true rfl) ?_
  show XN l Z i_G_exchangeWords u (kV K) u 0 [(0, .ref x0), (1, .int x1), (2, .int x2)] []
  unfold p_G_exchangeWords at k
  obtain ⟨y1, ey1⟩ : ∃ y9 : Int32, y9 = (x1 ||| x2) := ⟨_, rfl⟩
  have k := k y1 ey1
  obtain ⟨n2, k⟩ := k
  have hx4 : ∀ (v3 : PS), (K v3) → XN l Z i_G_exchangeWords u (kV K) v3 69 [] [] := by
    intro v3 k
    have hle_v3 : x_le v3 v3 := x_le.rf v3
    refine ⟨none, v3, ⟨rfl, k⟩, hle_v3, ?_⟩
    intro p e s m args below meth c A H locs ls F hw hl
    obtain ⟨⟨hx, hb, hml, hown, hts⟩, hr, hlocks, hmn⟩ := id F
    exact xr_vret F rfl hw d_G_exchangeWords_69
  obtain ⟨rv, v9, hK, hle_u, w9⟩ := t_G_exchangeWords_L7 l Z u x0 x1 x2 y1 hx4 n2 (0 : Int32) u k
  refine ⟨rv, v9, hK, hle_u, ?_⟩
  intro p e s m args below meth c A H locs ls F hw hl
  obtain ⟨⟨hx, hb, hml, hown, hts⟩, hr, hlocks, hmn⟩ := id F
  refine lv_iload_n hx hb d_G_exchangeWords_0 rfl (lv_at hl 1 rfl) ?_
  refine lv_iload_n hx hb d_G_exchangeWords_1 rfl (lv_at hl 2 rfl) ?_
  refine lv_ior hx hb d_G_exchangeWords_2 ?_
  refine lv_istore_n (lv' := [(3, .int y1), (0, .ref x0), (1, .int x1), (2, .int x2)]) hx hb d_G_exchangeWords_3 rfl hl (by decide) (by subst ey1; rfl) (fun ls hl => ?_)
  refine lv_iconst (v := 0) hx hb d_G_exchangeWords_4 (by decide) ?_
  refine lv_istore (lv' := [(4, .int 0), (3, .int y1), (0, .ref x0), (1, .int x1), (2, .int x2)]) hx hb d_G_exchangeWords_5 hl (by decide) rfl (fun ls hl => ?_)
  exact w9 p e s m args below meth c A H locs ls F hw (lv_sub hl [2, 3, 4, 1, 0] rfl)
set_option maxRecDepth 100000 in
set_option maxHeartbeats 4000000 in
theorem c_G_exchange (l : Launch) (Z : XZ) (x0 : Nat) (x1 : Int32) (x2 : Int32) (u : PS) (K : PS → Prop) (k : p_G_exchange x0 x1 x2 u K) : ∃ (rv : Option Value) (u1 : PS), (kV K) rv u1 ∧ XMet l Z i_G_exchange [.ref x0, .int x1, .int x2] u rv u1 := by
  refine x_met (by decide) rfl (Nat.le_of_ble_eq_true rfl) ?_
  show XN l Z i_G_exchange u (kV K) u 0 [(0, .ref x0), (1, .int x1), (2, .int x2)] []
  unfold p_G_exchange at k
  by_cases hc1 : 6 ≤ x2
  · have k := k.1 hc1
    by_cases hc2 : 6 ≤ x1
    · have k := k.1 hc2
      obtain ⟨h4, k⟩ := k
      obtain ⟨_, u_4, ⟨rfl, k⟩, hM3⟩ := c_G_exchangeWords l Z x0 ((1 : Int32) <<< ((x1 - (6 : Int32)) &&& 31)) ((1 : Int32) <<< ((x2 - (6 : Int32)) &&& 31)) u _ k
      have hle_u_4 : x_le u_4 u_4 := x_le.rf u_4
      have hle_u : x_le u u_4 := (hM3.1).tr hle_u_4
      refine ⟨none, u_4, ⟨rfl, k⟩, hle_u, ?_⟩
      intro p e s m args below meth c A H locs ls F hw hl
      obtain ⟨⟨hx, hb, hml, hown, hts⟩, hr, hlocks, hmn⟩ := id F
      refine lv_iload_n hx hb d_G_exchange_0 rfl (lv_at hl 2 rfl) ?_
      refine lv_bipush (v := 6) hx hb d_G_exchange_1 (by decide) ?_
      refine lv_icmp_ge (tgt := 15) hx hb d_G_exchange_3 (by decide) (fun _ => ?_) (fun c9 => absurd hc1 c9)
      refine lv_iload_n hx hb d_G_exchange_15 rfl (lv_at hl 1 rfl) ?_
      refine lv_bipush (v := 6) hx hb d_G_exchange_16 (by decide) ?_
      refine lv_icmp_ge (tgt := 35) hx hb d_G_exchange_18 (by decide) (fun _ => ?_) (fun c9 => absurd hc2 c9)
      refine lv_aload_n hx hb d_G_exchange_35 rfl (lv_at hl 0 rfl) ?_
      refine lv_iconst (v := 1) hx hb d_G_exchange_36 (by decide) ?_
      refine lv_iload_n hx hb d_G_exchange_37 rfl (lv_at hl 1 rfl) ?_
      refine lv_bipush (v := 6) hx hb d_G_exchange_38 (by decide) ?_
      refine lv_isub hx hb d_G_exchange_40 ?_
      refine lv_ishl hx hb d_G_exchange_41 ?_
      refine lv_iconst (v := 1) hx hb d_G_exchange_42 (by decide) ?_
      refine lv_iload_n hx hb d_G_exchange_43 rfl (lv_at hl 2 rfl) ?_
      refine lv_bipush (v := 6) hx hb d_G_exchange_44 (by decide) ?_
      refine lv_isub hx hb d_G_exchange_46 ?_
      refine lv_ishl hx hb d_G_exchange_47 ?_
      refine xr_cV (As := [.int ((1 : Int32) <<< ((x1 - (6 : Int32)) &&& 31)), .int ((1 : Int32) <<< ((x2 - (6 : Int32)) &&& 31))]) (rest := []) ⟨hx, hb, hml, hown, hts⟩ hw hM3 hle_u_4 (fun _ _ => ⟨callB_of 2 hts (xgood w_363) rfl rfl rfl (hts _ (xm w_6)) (hts _ (xm w_360)) ⟨by decide, by decide, by decide +kernel⟩ ⟨Nat.le_of_ble_eq_true rfl, Nat.le_of_ble_eq_true rfl⟩, (hts _ (xm w_362)), (hts _ (xm wp_13))⟩) (qc := (R_G, F_G, 10)) rfl rfl h4 rfl hl.1 rfl (Nat.le_of_ble_eq_true rfl) d_G_exchange_48 (fun H locs hw => ?_)
      refine W.eq (g2 := F0 m 51 ls []) rfl ?_
      exact xr_vret F rfl hw d_G_exchange_51
    · have k := k.2 hc2
      obtain ⟨h6, k⟩ := k
      obtain ⟨_, u_5, ⟨rfl, k⟩, hM5⟩ := c_G_exchangeAcrossWords l Z x0 x1 ((1 : Int32) <<< ((x2 - (6 : Int32)) &&& 31)) u _ k
      have hle_u_5 : x_le u_5 u_5 := x_le.rf u_5
      have hle_u : x_le u u_5 := (hM5.1).tr hle_u_5
      refine ⟨none, u_5, ⟨rfl, k⟩, hle_u, ?_⟩
      intro p e s m args below meth c A H locs ls F hw hl
      obtain ⟨⟨hx, hb, hml, hown, hts⟩, hr, hlocks, hmn⟩ := id F
      refine lv_iload_n hx hb d_G_exchange_0 rfl (lv_at hl 2 rfl) ?_
      refine lv_bipush (v := 6) hx hb d_G_exchange_1 (by decide) ?_
      refine lv_icmp_ge (tgt := 15) hx hb d_G_exchange_3 (by decide) (fun _ => ?_) (fun c9 => absurd hc1 c9)
      refine lv_iload_n hx hb d_G_exchange_15 rfl (lv_at hl 1 rfl) ?_
      refine lv_bipush (v := 6) hx hb d_G_exchange_16 (by decide) ?_
      refine lv_icmp_ge (tgt := 35) hx hb d_G_exchange_18 (by decide) (fun c9 => absurd c9 hc2) (fun _ => ?_)
      refine lv_aload_n hx hb d_G_exchange_21 rfl (lv_at hl 0 rfl) ?_
      refine lv_iload_n hx hb d_G_exchange_22 rfl (lv_at hl 1 rfl) ?_
      refine lv_iconst (v := 1) hx hb d_G_exchange_23 (by decide) ?_
      refine lv_iload_n hx hb d_G_exchange_24 rfl (lv_at hl 2 rfl) ?_
      refine lv_bipush (v := 6) hx hb d_G_exchange_25 (by decide) ?_
      refine lv_isub hx hb d_G_exchange_27 ?_
      refine lv_ishl hx hb d_G_exchange_28 ?_
      refine xr_cV (As := [.int x1, .int ((1 : Int32) <<< ((x2 - (6 : Int32)) &&& 31))]) (rest := []) ⟨hx, hb, hml, hown, hts⟩ hw hM5 hle_u_5 (fun _ _ => ⟨callB_of 2 hts (xgood w_359) rfl rfl rfl (hts _ (xm w_6)) (hts _ (xm w_356)) ⟨by decide, by decide, by decide +kernel⟩ ⟨Nat.le_of_ble_eq_true rfl, Nat.le_of_ble_eq_true rfl⟩, (hts _ (xm w_358)), (hts _ (xm wp_12))⟩) (qc := (R_G, F_G, 10)) rfl rfl h6 rfl hl.1 rfl (Nat.le_of_ble_eq_true rfl) d_G_exchange_29 (fun H locs hw => ?_)
      refine W.eq (g2 := F0 m 32 ls []) rfl ?_
      refine lv_goto (tgt := 51) hx hb d_G_exchange_32 (by decide) ?_
      exact xr_vret F rfl hw d_G_exchange_51
  · have k := k.2 hc1
    obtain ⟨h8, k⟩ := k
    obtain ⟨_, u_6, ⟨rfl, k⟩, hM7⟩ := c_G_exchangeWithinWords l Z x0 x1 x2 u _ k
    have hle_u_6 : x_le u_6 u_6 := x_le.rf u_6
    have hle_u : x_le u u_6 := (hM7.1).tr hle_u_6
    refine ⟨none, u_6, ⟨rfl, k⟩, hle_u, ?_⟩
    intro p e s m args below meth c A H locs ls F hw hl
    obtain ⟨⟨hx, hb, hml, hown, hts⟩, hr, hlocks, hmn⟩ := id F
    refine lv_iload_n hx hb d_G_exchange_0 rfl (lv_at hl 2 rfl) ?_
    refine lv_bipush (v := 6) hx hb d_G_exchange_1 (by decide) ?_
    refine lv_icmp_ge (tgt := 15) hx hb d_G_exchange_3 (by decide) (fun c9 => absurd c9 hc1) (fun _ => ?_)
    refine lv_aload_n hx hb d_G_exchange_6 rfl (lv_at hl 0 rfl) ?_
    refine lv_iload_n hx hb d_G_exchange_7 rfl (lv_at hl 1 rfl) ?_
    refine lv_iload_n hx hb d_G_exchange_8 rfl (lv_at hl 2 rfl) ?_
    refine xr_cV (As := [.int x1, .int x2]) (rest := []) ⟨hx, hb, hml, hown, hts⟩ hw hM7 hle_u_6 (fun _ _ => ⟨callB_of 2 hts (xgood w_353) rfl rfl rfl (hts _ (xm w_6)) (hts _ (xm w_350)) ⟨by decide, by decide, by decide +kernel⟩ ⟨Nat.le_of_ble_eq_true rfl, Nat.le_of_ble_eq_true rfl⟩, (hts _ (xm w_352)), (hts _ (xm wp_11))⟩) (qc := (R_G, F_G, 10)) rfl rfl h8 rfl hl.1 rfl (Nat.le_of_ble_eq_true rfl) d_G_exchange_9 (fun H locs hw => ?_)
    refine W.eq (g2 := F0 m 12 ls []) rfl ?_
    refine lv_goto (tgt := 51) hx hb d_G_exchange_12 (by decide) ?_
    exact xr_vret F rfl hw d_G_exchange_51
