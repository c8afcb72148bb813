set_option maxRecDepth 100000 in
set_option maxHeartbeats 4000000 in
theorem t_M_init_L99 (l : Launch) (Z : XZ) (u0 : PS) {Kv : Option Value → PS → Prop} {E118 : PS → Prop} (x0 : Nat) (hE118 : ∀ (v : PS), E118 v → XN l Z i_M_init u0 Kv v 118 [] []) : ∀ (n : Nat) (x1 : Int32) (u : PS), p_M_init_L99 x0 E118 n x1 u → XN l Z i_M_init u0 Kv u 99 [(0, .ref x0), (1, .int x1)] [] := by
  intro n
  induction n with
  | zero => intro x1 u k; exact False.elim k
  | succ n ih =>
    intro x1 u k
    rw [p_M_init_L99] at k
    by_cases hc1 : 10 ≤ x1
    · have k := k.1 hc1
      obtain ⟨rv, v9, hK, hle_u, w9⟩ := hE118 u k
      refine ⟨rv, v9, hK, hle_u, ?_⟩
      intro p e s m args below meth c A H locs ls F hw hl
      obtain ⟨⟨hx, hb, hml, hown, hts⟩, hr, hlocks, hmn⟩ := id F
      refine lv_iload_n hx hb d_M_init_99 rfl (lv_at hl 1 rfl) ?_
      refine lv_bipush (v := 10) hx hb d_M_init_100 (by decide) ?_
      refine lv_icmp_ge (tgt := 118) hx hb d_M_init_102 (by decide) (fun _ => ?_) (fun c9 => absurd hc1 c9)
      exact w9 p e s m args below meth c A H locs ls F hw (lv_sub hl [] rfl)
    · have k := k.2 hc1
      obtain ⟨z_72, h2, k⟩ := k
      obtain ⟨u_73, h3, k⟩ := k
      obtain ⟨y4, ey4⟩ : ∃ y9 : Int32, y9 = x1 + 1 := ⟨_, rfl⟩
      have k := k y4 ey4
      obtain ⟨rv, v9, hK, hle_u_73, w9⟩ := ih y4 u_73 k
      have hle_u : x_le u v9 := (h3.le).tr hle_u_73
      refine ⟨rv, v9, hK, hle_u, ?_⟩
      intro p e s m args below meth c A H locs ls F hw hl
      obtain ⟨⟨hx, hb, hml, hown, hts⟩, hr, hlocks, hmn⟩ := id F
      refine lv_iload_n hx hb d_M_init_99 rfl (lv_at hl 1 rfl) ?_
      refine lv_bipush (v := 10) hx hb d_M_init_100 (by decide) ?_
      refine lv_icmp_ge (tgt := 118) hx hb d_M_init_102 (by decide) (fun c9 => absurd c9 hc1) (fun _ => ?_)
      refine lv_aload_n hx hb d_M_init_105 rfl (lv_at hl 0 rfl) ?_
      refine xr_get hx hb hts (xmu uws_M) hown hw h2 rfl (by decide) (hts _ (xm w_871)) (fun _ h9 => h9) d_M_init_106 ?_
      refine lv_iload_n hx hb d_M_init_109 rfl (lv_at hl 1 rfl) ?_
      refine lv_iload_n hx hb d_M_init_110 rfl (lv_at hl 1 rfl) ?_
      refine xr_iast hx hb hw h3 d_M_init_111 (fun H locs hw => ?_)
      refine lv_iinc (v := y4) (lv' := [(1, .int y4), (0, .ref x0)]) hx hb d_M_init_112 hl (k := 1) rfl (by subst ey4; rfl) (by decide) rfl (fun ls hl => ?_)
      refine lv_goto (tgt := 99) hx hb d_M_init_115 (by decide) ?_
      exact w9 p e s m args below meth c A H locs ls F hw (lv_sub hl [1, 0] rfl)
set_option maxRecDepth 100000 in
set_option maxHeartbeats 4000000 in
theorem c_M_init (l : Launch) (Z : XZ) (x0 : Nat) (u : PS) (K : PS → Prop) (k : p_M_init x0 u K) : ∃ (rv : Option Value) (u1 : PS), (kV K) rv u1 ∧ XMet l Z i_M_init [.ref x0] u rv u1 := by
  refine x_met (by decide) rfl (Nat.le_of_ble_eq_true rfl) ?_
  show XN l Z i_M_init u (kV K) u 0 [(0, .ref x0)] []
  unfold p_M_init at k
  obtain ⟨a_39, u_40, h1, k⟩ := k
  obtain ⟨u_41, h2, k⟩ := k
  obtain ⟨a_42, u_43, h3, k⟩ := k
  obtain ⟨u_44, h4, k⟩ := k
  obtain ⟨a_45, u_46, h5, k⟩ := k
  obtain ⟨u_47, h6, k⟩ := k
  obtain ⟨a_48, u_49, h7, k⟩ := k
  obtain ⟨u_50, h8, k⟩ := k
  obtain ⟨a_51, u_52, h9, k⟩ := k
  obtain ⟨u_53, h10, k⟩ := k
  obtain ⟨a_54, u_55, h11, k⟩ := k
  obtain ⟨u_56, h12, k⟩ := k
  obtain ⟨a_57, u_58, h13, k⟩ := k
  obtain ⟨u_59, h14, k⟩ := k
  obtain ⟨a_60, u_61, h15, k⟩ := k
  obtain ⟨u_62, h16, k⟩ := k
  obtain ⟨a_63, u_64, h17, k⟩ := k
  obtain ⟨u_65, h18, k⟩ := k
  obtain ⟨a_66, u_67, h19, k⟩ := k
  obtain ⟨u_68, h20, k⟩ := k
  obtain ⟨a_69, u_70, h21, k⟩ := k
  obtain ⟨u_71, h22, k⟩ := k
  obtain ⟨n23, k⟩ := k
  have hx25 : ∀ (v24 : PS), (K v24) → XN l Z i_M_init u (kV K) v24 118 [] [] := by
    intro v24 k
    have hle_v24 : x_le v24 v24 := x_le.rf v24
    refine ⟨none, v24, ⟨rfl, k⟩, hle_v24, ?_⟩
    intro p e s m args below meth c A H locs ls F hw hl
    obtain ⟨⟨hx, hb, hml, hown, hts⟩, hr, hlocks, hmn⟩ := id F
    exact xr_vret F rfl hw d_M_init_118
  obtain ⟨rv, v9, hK, hle_u_71, w9⟩ := t_M_init_L99 l Z u x0 hx25 n23 (0 : Int32) u_71 k
  have hle_u_70 : x_le u_70 v9 := (h22.le).tr hle_u_71
  have hle_u_68 : x_le u_68 v9 := (h21.le).tr hle_u_70
  have hle_u_67 : x_le u_67 v9 := (h20.le).tr hle_u_68
  have hle_u_65 : x_le u_65 v9 := (h19.le).tr hle_u_67
  have hle_u_64 : x_le u_64 v9 := (h18.le).tr hle_u_65
  have hle_u_62 : x_le u_62 v9 := (h17.le).tr hle_u_64
  have hle_u_61 : x_le u_61 v9 := (h16.le).tr hle_u_62
  have hle_u_59 : x_le u_59 v9 := (h15.le).tr hle_u_61
  have hle_u_58 : x_le u_58 v9 := (h14.le).tr hle_u_59
  have hle_u_56 : x_le u_56 v9 := (h13.le).tr hle_u_58
  have hle_u_55 : x_le u_55 v9 := (h12.le).tr hle_u_56
  have hle_u_53 : x_le u_53 v9 := (h11.le).tr hle_u_55
  have hle_u_52 : x_le u_52 v9 := (h10.le).tr hle_u_53
  have hle_u_50 : x_le u_50 v9 := (h9.le).tr hle_u_52
  have hle_u_49 : x_le u_49 v9 := (h8.le).tr hle_u_50
  have hle_u_47 : x_le u_47 v9 := (h7.le).tr hle_u_49
  have hle_u_46 : x_le u_46 v9 := (h6.le).tr hle_u_47
  have hle_u_44 : x_le u_44 v9 := (h5.le).tr hle_u_46
  have hle_u_43 : x_le u_43 v9 := (h4.le).tr hle_u_44
  have hle_u_41 : x_le u_41 v9 := (h3.le).tr hle_u_43
  have hle_u_40 : x_le u_40 v9 := (h2.le).tr hle_u_41
  have hle_u : x_le u v9 := (h1.le).tr hle_u_40
  refine ⟨rv, v9, hK, hle_u, ?_⟩
  intro p e s m args below meth c A H locs ls F hw hl
  obtain ⟨⟨hx, hb, hml, hown, hts⟩, hr, hlocks, hmn⟩ := id F
  refine lv_aload_n hx hb d_M_init_0 rfl (lv_at hl 0 rfl) ?_
  refine W.objInit hx hb hown (hts _ (xm w_866)) (hts _ (xm w_23)) (hts _ (xm w_24)) rfl (by rw [hml]; exact hl.1) rfl d_M_init_1 (Nat.le_of_ble_eq_true rfl) (Nat.le_of_ble_eq_true rfl) ?_
  refine W.eq (g2 := F0 m 4 ls []) rfl ?_
  refine lv_aload_n hx hb d_M_init_4 rfl (lv_at hl 0 rfl) ?_
  refine lv_sipush (v := 24576) hx hb d_M_init_5 (by decide) ?_
  refine xr_newaz hx hb rfl (hts _ (xm w_911)) hw h1 hle_u_40 d_M_init_8 (fun H hw => ?_)
  refine xr_putF (ty := .array .boolean) hx hb hts (xmu uws_M) tyc_M tyc_M_ok nmc_M hown hw h2 rfl (by decide) (hts _ (xm w_869)) (fun _ h9 => h9) rfl hmn rfl (by decide +kernel) rfl rfl d_M_init_10 (fun H locs hw => ?_)
  refine lv_aload_n hx hb d_M_init_13 rfl (lv_at hl 0 rfl) ?_
  refine lv_sipush (v := 1024) hx hb d_M_init_14 (by decide) ?_
  refine xr_newaz hx hb rfl (hts _ (xm w_911)) hw h3 hle_u_43 d_M_init_17 (fun H hw => ?_)
  refine xr_putF (ty := .array .boolean) hx hb hts (xmu uws_M) tyc_M tyc_M_ok nmc_M hown hw h4 rfl (by decide) (hts _ (xm w_870)) (fun _ h9 => h9) rfl hmn rfl (by decide +kernel) rfl rfl d_M_init_19 (fun H locs hw => ?_)
  refine lv_aload_n hx hb d_M_init_22 rfl (lv_at hl 0 rfl) ?_
  refine lv_bipush (v := 10) hx hb d_M_init_23 (by decide) ?_
  refine xr_newai hx hb rfl (hts _ (xm w_51)) hw h5 hle_u_46 d_M_init_25 (fun H hw => ?_)
  refine xr_putF (ty := .array .int) hx hb hts (xmu uws_M) tyc_M tyc_M_ok nmc_M hown hw h6 rfl (by decide) (hts _ (xm w_871)) (fun _ h9 => h9) rfl hmn rfl (by decide +kernel) rfl rfl d_M_init_27 (fun H locs hw => ?_)
  refine lv_aload_n hx hb d_M_init_30 rfl (lv_at hl 0 rfl) ?_
  refine lv_sipush (v := 24576) hx hb d_M_init_31 (by decide) ?_
  refine xr_newai hx hb rfl (hts _ (xm w_51)) hw h7 hle_u_49 d_M_init_34 (fun H hw => ?_)
  refine xr_putF (ty := .array .int) hx hb hts (xmu uws_M) tyc_M tyc_M_ok nmc_M hown hw h8 rfl (by decide) (hts _ (xm w_872)) (fun _ h9 => h9) rfl hmn rfl (by decide +kernel) rfl rfl d_M_init_36 (fun H locs hw => ?_)
  refine lv_aload_n hx hb d_M_init_39 rfl (lv_at hl 0 rfl) ?_
  refine lv_sipush (v := 24576) hx hb d_M_init_40 (by decide) ?_
  refine xr_newai hx hb rfl (hts _ (xm w_51)) hw h9 hle_u_52 d_M_init_43 (fun H hw => ?_)
  refine xr_putF (ty := .array .int) hx hb hts (xmu uws_M) tyc_M tyc_M_ok nmc_M hown hw h10 rfl (by decide) (hts _ (xm w_874)) (fun _ h9 => h9) rfl hmn rfl (by decide +kernel) rfl rfl d_M_init_45 (fun H locs hw => ?_)
  refine lv_aload_n hx hb d_M_init_48 rfl (lv_at hl 0 rfl) ?_
  refine lv_sipush (v := 24576) hx hb d_M_init_49 (by decide) ?_
  refine xr_newai hx hb rfl (hts _ (xm w_51)) hw h11 hle_u_55 d_M_init_52 (fun H hw => ?_)
  refine xr_putF (ty := .array .int) hx hb hts (xmu uws_M) tyc_M tyc_M_ok nmc_M hown hw h12 rfl (by decide) (hts _ (xm w_875)) (fun _ h9 => h9) rfl hmn rfl (by decide +kernel) rfl rfl d_M_init_54 (fun H locs hw => ?_)
  refine lv_aload_n hx hb d_M_init_57 rfl (lv_at hl 0 rfl) ?_
  refine lv_ldc (v := 65536) hx hb hown (hts _ (xm w_867)) d_M_init_58 ?_
  refine xr_newai hx hb rfl (hts _ (xm w_51)) hw h13 hle_u_58 d_M_init_60 (fun H hw => ?_)
  refine xr_putF (ty := .array .int) hx hb hts (xmu uws_M) tyc_M tyc_M_ok nmc_M hown hw h14 rfl (by decide) (hts _ (xm w_876)) (fun _ h9 => h9) rfl hmn rfl (by decide +kernel) rfl rfl d_M_init_62 (fun H locs hw => ?_)
  refine lv_aload_n hx hb d_M_init_65 rfl (lv_at hl 0 rfl) ?_
  refine lv_ldc (v := 65536) hx hb hown (hts _ (xm w_867)) d_M_init_66 ?_
  refine xr_newai hx hb rfl (hts _ (xm w_51)) hw h15 hle_u_61 d_M_init_68 (fun H hw => ?_)
  refine xr_putF (ty := .array .int) hx hb hts (xmu uws_M) tyc_M tyc_M_ok nmc_M hown hw h16 rfl (by decide) (hts _ (xm w_877)) (fun _ h9 => h9) rfl hmn rfl (by decide +kernel) rfl rfl d_M_init_70 (fun H locs hw => ?_)
  refine lv_aload_n hx hb d_M_init_73 rfl (lv_at hl 0 rfl) ?_
  refine lv_bipush (v := 10) hx hb d_M_init_74 (by decide) ?_
  refine xr_newai hx hb rfl (hts _ (xm w_51)) hw h17 hle_u_64 d_M_init_76 (fun H hw => ?_)
  refine xr_putF (ty := .array .int) hx hb hts (xmu uws_M) tyc_M tyc_M_ok nmc_M hown hw h18 rfl (by decide) (hts _ (xm w_879)) (fun _ h9 => h9) rfl hmn rfl (by decide +kernel) rfl rfl d_M_init_78 (fun H locs hw => ?_)
  refine lv_aload_n hx hb d_M_init_81 rfl (lv_at hl 0 rfl) ?_
  refine lv_bipush (v := 10) hx hb d_M_init_82 (by decide) ?_
  refine xr_newai hx hb rfl (hts _ (xm w_51)) hw h19 hle_u_67 d_M_init_84 (fun H hw => ?_)
  refine xr_putF (ty := .array .int) hx hb hts (xmu uws_M) tyc_M tyc_M_ok nmc_M hown hw h20 rfl (by decide) (hts _ (xm w_880)) (fun _ h9 => h9) rfl hmn rfl (by decide +kernel) rfl rfl d_M_init_86 (fun H locs hw => ?_)
  refine lv_aload_n hx hb d_M_init_89 rfl (lv_at hl 0 rfl) ?_
  refine lv_bipush (v := 10) hx hb d_M_init_90 (by decide) ?_
  refine xr_newaz hx hb rfl (hts _ (xm w_911)) hw h21 hle_u_70 d_M_init_92 (fun H hw => ?_)
  refine xr_putF (ty := .array .boolean) hx hb hts (xmu uws_M) tyc_M tyc_M_ok nmc_M hown hw h22 rfl (by decide) (hts _ (xm w_881)) (fun _ h9 => h9) rfl hmn rfl (by decide +kernel) rfl rfl d_M_init_94 (fun H locs hw => ?_)
  refine lv_iconst (v := 0) hx hb d_M_init_97 (by decide) ?_
  refine lv_istore_n (lv' := [(1, .int 0), (0, .ref x0)]) hx hb d_M_init_98 rfl hl (by decide) rfl (fun ls hl => ?_)
  exact w9 p e s m args below meth c A H locs ls F hw (lv_sub hl [1, 0] rfl)
set_option maxRecDepth 100000 in
set_option maxHeartbeats 4000000 in
theorem c_M_thrown (l : Launch) (Z : XZ) (x0 : Nat) (u : PS) (K : Int32 → PS → Prop) (k : p_M_thrown x0 u K) : ∃ (rv : Option Value) (u1 : PS), (kI K) rv u1 ∧ XMet l Z i_M_thrown [.ref x0] u rv u1 := by
  refine x_met (by decide) rfl (Nat.le_of_ble_eq_true rfl) ?_
  show XN l Z i_M_thrown u (kI K) u 0 [(0, .ref x0)] []
  unfold p_M_thrown at k
  obtain ⟨z_2, h1, k⟩ := k
  have hle_u : x_le u u := x_le.rf u
  refine ⟨some (.int z_2), u, ⟨z_2, rfl, k⟩, hle_u, ?_⟩
  intro p e s m args below meth c A H locs ls F hw hl
  obtain ⟨⟨hx, hb, hml, hown, hts⟩, hr, hlocks, hmn⟩ := id F
  refine lv_aload_n hx hb d_M_thrown_0 rfl (lv_at hl 0 rfl) ?_
  refine xr_get hx hb hts (xmu uws_M) hown hw h1 rfl (by decide) (hts _ (xm w_868)) (fun _ h9 => h9) d_M_thrown_1 ?_
  exact xr_iret F rfl hw d_M_thrown_4
set_option maxRecDepth 100000 in
set_option maxHeartbeats 4000000 in
theorem t_M_refuse_J18 (l : Launch) (Z : XZ) (u0 : PS) {K : Int32 → PS → Prop} (x0 : Nat) (s0 : Nat) (s1 : Int32) (u : PS) (k : (p_M_refuse_J18 K x0 s0 s1 u)) : XN l Z i_M_refuse u0 (kI K) u 18 [(0, .ref x0)] [.int s1, .ref s0] := by
  unfold p_M_refuse_J18 at k
  obtain ⟨u_3, h1, k⟩ := k
  obtain ⟨z_4, h2, k⟩ := k
  by_cases hc3 : z_4 ≤ 0
  · have k := k.1 hc3
    obtain ⟨hz9, k⟩ := k
    have hle_u_3 : x_le u_3 u_3 := x_le.rf u_3
    have hle_u : x_le u u_3 := (h1.le).tr hle_u_3
    refine ⟨some (.int 0), u_3, ⟨(0 : Int32), rfl, k⟩, hle_u, ?_⟩
    intro p e s m args below meth c A H locs ls F hw hl
    obtain ⟨⟨hx, hb, hml, hown, hts⟩, hr, hlocks, hmn⟩ := id F
    refine xr_put (ty := .int) hx hb hts (xmu uws_M) tyc_M tyc_M_ok nmc_M hown hw h1 rfl (by decide) (hts _ (xm w_868)) (fun _ h9 => h9) rfl (by decide +kernel) rfl rfl d_M_refuse_18 (fun H locs hw => ?_)
    refine lv_aload_n hx hb d_M_refuse_21 rfl (lv_at hl 0 rfl) ?_
    refine xr_get hx hb hts (xmu uws_M) hown hw h2 rfl (by decide) (hts _ (xm w_868)) (fun _ h9 => h9) d_M_refuse_22 ?_
    refine lv_if_le (tgt := 32) hx hb d_M_refuse_25 (by decide) (fun _ => ?_) (fun c9 => absurd hc3 c9)
    refine lv_iconst (v := 0) hx hb d_M_refuse_32 (by decide) ?_
    exact xr_zret F rfl hz9 hw d_M_refuse_33
  · have k := k.2 hc3
    obtain ⟨hz9, k⟩ := k
    have hle_u_3 : x_le u_3 u_3 := x_le.rf u_3
    have hle_u : x_le u u_3 := (h1.le).tr hle_u_3
    refine ⟨some (.int 1), u_3, ⟨(1 : Int32), rfl, k⟩, hle_u, ?_⟩
    intro p e s m args below meth c A H locs ls F hw hl
    obtain ⟨⟨hx, hb, hml, hown, hts⟩, hr, hlocks, hmn⟩ := id F
    refine xr_put (ty := .int) hx hb hts (xmu uws_M) tyc_M tyc_M_ok nmc_M hown hw h1 rfl (by decide) (hts _ (xm w_868)) (fun _ h9 => h9) rfl (by decide +kernel) rfl rfl d_M_refuse_18 (fun H locs hw => ?_)
    refine lv_aload_n hx hb d_M_refuse_21 rfl (lv_at hl 0 rfl) ?_
    refine xr_get hx hb hts (xmu uws_M) hown hw h2 rfl (by decide) (hts _ (xm w_868)) (fun _ h9 => h9) d_M_refuse_22 ?_
    refine lv_if_le (tgt := 32) hx hb d_M_refuse_25 (by decide) (fun c9 => absurd c9 hc3) (fun _ => ?_)
    refine lv_iconst (v := 1) hx hb d_M_refuse_28 (by decide) ?_
    refine lv_goto (tgt := 33) hx hb d_M_refuse_29 (by decide) ?_
    exact xr_zret F rfl hz9 hw d_M_refuse_33
set_option maxRecDepth 100000 in
set_option maxHeartbeats 4000000 in
theorem c_M_refuse (l : Launch) (Z : XZ) (x0 : Nat) (x1 : Int32) (x2 : Int32) (u : PS) (K : Int32 → PS → Prop) (k : p_M_refuse x0 x1 x2 u K) : ∃ (rv : Option Value) (u1 : PS), (kI K) rv u1 ∧ XMet l Z i_M_refuse [.ref x0, .int x1, .int x2] u rv u1 := by
  refine x_met (by decide) rfl (Nat.le_of_ble_eq_true rfl) ?_
  show XN l Z i_M_refuse u (kI K) u 0 [(0, .ref x0), (1, .int x1), (2, .int x2)] []
  unfold p_M_refuse at k
  by_cases hc1 : x1 = 0
  · have k := k.1 hc1
    by_cases hc2 : x2 = 0
    · have k := k.1 hc2
      obtain ⟨rv, v9, hK, hle_u, w9⟩ := t_M_refuse_J18 l Z u x0 x0 (0 : Int32) u k
      refine ⟨rv, v9, hK, hle_u, ?_⟩
      intro p e s m args below meth c A H locs ls F hw hl
      obtain ⟨⟨hx, hb, hml, hown, hts⟩, hr, hlocks, hmn⟩ := id F
      refine lv_aload_n hx hb d_M_refuse_0 rfl (lv_at hl 0 rfl) ?_
      refine lv_iload_n hx hb d_M_refuse_1 rfl (lv_at hl 1 rfl) ?_
      refine lv_if_eq (tgt := 9) hx hb d_M_refuse_2 (by decide) (fun _ => ?_) (fun c9 => absurd hc1 c9)
      refine lv_iload_n hx hb d_M_refuse_9 rfl (lv_at hl 2 rfl) ?_
      refine lv_if_eq (tgt := 17) hx hb d_M_refuse_10 (by decide) (fun _ => ?_) (fun c9 => absurd hc2 c9)
      refine lv_iconst (v := 0) hx hb d_M_refuse_17 (by decide) ?_
      exact w9 p e s m args below meth c A H locs ls F hw (lv_sub hl [0] rfl)
    · have k := k.2 hc2
      obtain ⟨rv, v9, hK, hle_u, w9⟩ := t_M_refuse_J18 l Z u x0 x0 (2 : Int32) u k
      refine ⟨rv, v9, hK, hle_u, ?_⟩
      intro p e s m args below meth c A H locs ls F hw hl
      obtain ⟨⟨hx, hb, hml, hown, hts⟩, hr, hlocks, hmn⟩ := id F
      refine lv_aload_n hx hb d_M_refuse_0 rfl (lv_at hl 0 rfl) ?_
      refine lv_iload_n hx hb d_M_refuse_1 rfl (lv_at hl 1 rfl) ?_
      refine lv_if_eq (tgt := 9) hx hb d_M_refuse_2 (by decide) (fun _ => ?_) (fun c9 => absurd hc1 c9)
      refine lv_iload_n hx hb d_M_refuse_9 rfl (lv_at hl 2 rfl) ?_
      refine lv_if_eq (tgt := 17) hx hb d_M_refuse_10 (by decide) (fun c9 => absurd c9 hc2) (fun _ => ?_)
      refine lv_iconst (v := 2) hx hb d_M_refuse_13 (by decide) ?_
      refine lv_goto (tgt := 18) hx hb d_M_refuse_14 (by decide) ?_
      exact w9 p e s m args below meth c A H locs ls F hw (lv_sub hl [0] rfl)
  · have k := k.2 hc1
    obtain ⟨rv, v9, hK, hle_u, w9⟩ := t_M_refuse_J18 l Z u x0 x0 (1 : Int32) u k
    refine ⟨rv, v9, hK, hle_u, ?_⟩
    intro p e s m args below meth c A H locs ls F hw hl
    obtain ⟨⟨hx, hb, hml, hown, hts⟩, hr, hlocks, hmn⟩ := id F
    refine lv_aload_n hx hb d_M_refuse_0 rfl (lv_at hl 0 rfl) ?_
    refine lv_iload_n hx hb d_M_refuse_1 rfl (lv_at hl 1 rfl) ?_
    refine lv_if_eq (tgt := 9) hx hb d_M_refuse_2 (by decide) (fun c9 => absurd c9 hc1) (fun _ => ?_)
    refine lv_iconst (v := 1) hx hb d_M_refuse_5 (by decide) ?_
    refine lv_goto (tgt := 18) hx hb d_M_refuse_6 (by decide) ?_
    exact w9 p e s m args below meth c A H locs ls F hw (lv_sub hl [0] rfl)
set_option maxRecDepth 100000 in
set_option maxHeartbeats 4000000 in
theorem c_M_in (l : Launch) (Z : XZ) (x0 : Int32) (x1 : Int32) (x2 : Int32) (u : PS) (K : Int32 → PS → Prop) (k : p_M_in x0 x1 x2 u K) : ∃ (rv : Option Value) (u1 : PS), (kI K) rv u1 ∧ XMet l Z i_M_in [.int x0, .int x1, .int x2] u rv u1 := by
  refine x_met (by decide) rfl (Nat.le_of_ble_eq_true rfl) ?_
  show XN l Z i_M_in u (kI K) u 0 [(0, .int x0), (1, .int x1), (2, .int x2)] []
  unfold p_M_in at k
  by_cases hc1 : x0 < x1
  · have k := k.1 hc1
    obtain ⟨hz9, k⟩ := k
    have hle_u : x_le u u := x_le.rf u
    refine ⟨some (.int 0), u, ⟨(0 : Int32), rfl, k⟩, hle_u, ?_⟩
    intro p e s m args below meth c A H locs ls F hw hl
    obtain ⟨⟨hx, hb, hml, hown, hts⟩, hr, hlocks, hmn⟩ := id F
    refine lv_iload_n hx hb d_M_in_0 rfl (lv_at hl 0 rfl) ?_
    refine lv_iload_n hx hb d_M_in_1 rfl (lv_at hl 1 rfl) ?_
    refine lv_icmp_lt (tgt := 14) hx hb d_M_in_2 (by decide) (fun _ => ?_) (fun c9 => absurd hc1 c9)
    refine lv_iconst (v := 0) hx hb d_M_in_14 (by decide) ?_
    exact xr_zret F rfl hz9 hw d_M_in_15
  · have k := k.2 hc1
    by_cases hc2 : x2 < x0
    · have k := k.1 hc2
      obtain ⟨hz9, k⟩ := k
      have hle_u : x_le u u := x_le.rf u
      refine ⟨some (.int 0), u, ⟨(0 : Int32), rfl, k⟩, hle_u, ?_⟩
      intro p e s m args below meth c A H locs ls F hw hl
      obtain ⟨⟨hx, hb, hml, hown, hts⟩, hr, hlocks, hmn⟩ := id F
      refine lv_iload_n hx hb d_M_in_0 rfl (lv_at hl 0 rfl) ?_
      refine lv_iload_n hx hb d_M_in_1 rfl (lv_at hl 1 rfl) ?_
      refine lv_icmp_lt (tgt := 14) hx hb d_M_in_2 (by decide) (fun c9 => absurd c9 hc1) (fun _ => ?_)
      refine lv_iload_n hx hb d_M_in_5 rfl (lv_at hl 0 rfl) ?_
      refine lv_iload_n hx hb d_M_in_6 rfl (lv_at hl 2 rfl) ?_
      refine lv_icmp_gt (tgt := 14) hx hb d_M_in_7 (by decide) (fun _ => ?_) (fun c9 => absurd hc2 c9)
      refine lv_iconst (v := 0) hx hb d_M_in_14 (by decide) ?_
      exact xr_zret F rfl hz9 hw d_M_in_15
    · have k := k.2 hc2
      obtain ⟨hz9, k⟩ := k
      have hle_u : x_le u u := x_le.rf u
      refine ⟨some (.int 1), u, ⟨(1 : Int32), rfl, k⟩, hle_u, ?_⟩
      intro p e s m args below meth c A H locs ls F hw hl
      obtain ⟨⟨hx, hb, hml, hown, hts⟩, hr, hlocks, hmn⟩ := id F
      refine lv_iload_n hx hb d_M_in_0 rfl (lv_at hl 0 rfl) ?_
      refine lv_iload_n hx hb d_M_in_1 rfl (lv_at hl 1 rfl) ?_
      refine lv_icmp_lt (tgt := 14) hx hb d_M_in_2 (by decide) (fun c9 => absurd c9 hc1) (fun _ => ?_)
      refine lv_iload_n hx hb d_M_in_5 rfl (lv_at hl 0 rfl) ?_
      refine lv_iload_n hx hb d_M_in_6 rfl (lv_at hl 2 rfl) ?_
      refine lv_icmp_gt (tgt := 14) hx hb d_M_in_7 (by decide) (fun c9 => absurd c9 hc2) (fun _ => ?_)
      refine lv_iconst (v := 1) hx hb d_M_in_10 (by decide) ?_
      refine lv_goto (tgt := 15) hx hb d_M_in_11 (by decide) ?_
      exact xr_zret F rfl hz9 hw d_M_in_15
set_option maxRecDepth 100000 in
set_option maxHeartbeats 4000000 in
theorem c_M_isPlace (l : Launch) (Z : XZ) (x0 : Int32) (u : PS) (K : Int32 → PS → Prop) (k : p_M_isPlace x0 u K) : ∃ (rv : Option Value) (u1 : PS), (kI K) rv u1 ∧ XMet l Z i_M_isPlace [.int x0] u rv u1 := by
  refine x_met (by decide) rfl (Nat.le_of_ble_eq_true rfl) ?_
  show XN l Z i_M_isPlace u (kI K) u 0 [(0, .int x0)] []
  unfold p_M_isPlace at k
  obtain ⟨_, u_3, ⟨r_4, rfl, k⟩, hM1⟩ := c_M_in l Z x0 (0 : Int32) (23 : Int32) u _ k
  obtain ⟨hz9, k⟩ := k
  have hle_u_3 : x_le u_3 u_3 := x_le.rf u_3
  have hle_u : x_le u u_3 := (hM1.1).tr hle_u_3
  refine ⟨some (.int r_4), u_3, ⟨r_4, rfl, k⟩, hle_u, ?_⟩
  intro p e s m args below meth c A H locs ls F hw hl
  obtain ⟨⟨hx, hb, hml, hown, hts⟩, hr, hlocks, hmn⟩ := id F
  refine lv_iload_n hx hb d_M_isPlace_0 rfl (lv_at hl 0 rfl) ?_
  refine lv_iconst (v := 0) hx hb d_M_isPlace_1 (by decide) ?_
  refine lv_bipush (v := 23) hx hb d_M_isPlace_2 (by decide) ?_
  refine xr_cS (As := [.int x0, .int 0, .int 23]) (rest := []) ⟨hx, hb, hml, hown, hts⟩ hw hM1 hle_u_3 (fun _ _ => ⟨callB_of 3 hts (xgood w_925) rfl rfl rfl (hts _ (xm w_8)) (hts _ (xm w_923)) ⟨by decide, by decide, by decide +kernel⟩ ⟨Nat.le_of_ble_eq_true rfl, Nat.le_of_ble_eq_true rfl⟩, (hts _ (xm w_924))⟩) rfl hl.1 rfl (Nat.le_of_ble_eq_true rfl) d_M_isPlace_4 (fun H locs hw => ?_)
  refine W.eq (g2 := F0 m 7 ls [.int r_4]) rfl ?_
  exact xr_zret F rfl hz9 hw d_M_isPlace_7
set_option maxRecDepth 100000 in
set_option maxHeartbeats 4000000 in
theorem c_M_isInput (l : Launch) (Z : XZ) (x0 : Int32) (u : PS) (K : Int32 → PS → Prop) (k : p_M_isInput x0 u K) : ∃ (rv : Option Value) (u1 : PS), (kI K) rv u1 ∧ XMet l Z i_M_isInput [.int x0] u rv u1 := by
  refine x_met (by decide) rfl (Nat.le_of_ble_eq_true rfl) ?_
  show XN l Z i_M_isInput u (kI K) u 0 [(0, .int x0)] []
  unfold p_M_isInput at k
  obtain ⟨_, u_3, ⟨r_4, rfl, k⟩, hM1⟩ := c_M_in l Z x0 (0 : Int32) (9 : Int32) u _ k
  obtain ⟨hz9, k⟩ := k
  have hle_u_3 : x_le u_3 u_3 := x_le.rf u_3
  have hle_u : x_le u u_3 := (hM1.1).tr hle_u_3
  refine ⟨some (.int r_4), u_3, ⟨r_4, rfl, k⟩, hle_u, ?_⟩
  intro p e s m args below meth c A H locs ls F hw hl
  obtain ⟨⟨hx, hb, hml, hown, hts⟩, hr, hlocks, hmn⟩ := id F
  refine lv_iload_n hx hb d_M_isInput_0 rfl (lv_at hl 0 rfl) ?_
  refine lv_iconst (v := 0) hx hb d_M_isInput_1 (by decide) ?_
  refine lv_bipush (v := 9) hx hb d_M_isInput_2 (by decide) ?_
  refine xr_cS (As := [.int x0, .int 0, .int 9]) (rest := []) ⟨hx, hb, hml, hown, hts⟩ hw hM1 hle_u_3 (fun _ _ => ⟨callB_of 3 hts (xgood w_925) rfl rfl rfl (hts _ (xm w_8)) (hts _ (xm w_923)) ⟨by decide, by decide, by decide +kernel⟩ ⟨Nat.le_of_ble_eq_true rfl, Nat.le_of_ble_eq_true rfl⟩, (hts _ (xm w_924))⟩) rfl hl.1 rfl (Nat.le_of_ble_eq_true rfl) d_M_isInput_4 (fun H locs hw => ?_)
  refine W.eq (g2 := F0 m 7 ls [.int r_4]) rfl ?_
  exact xr_zret F rfl hz9 hw d_M_isInput_7
set_option maxRecDepth 100000 in
set_option maxHeartbeats 4000000 in
theorem c_M_is (l : Launch) (Z : XZ) (x0 : Nat) (x1 : Int32) (x2 : Int32) (u : PS) (K : Int32 → PS → Prop) (k : p_M_is x0 x1 x2 u K) : ∃ (rv : Option Value) (u1 : PS), (kI K) rv u1 ∧ XMet l Z i_M_is [.ref x0, .int x1, .int x2] u rv u1 := by
  refine x_met (by decide) rfl (Nat.le_of_ble_eq_true rfl) ?_
  show XN l Z i_M_is u (kI K) u 0 [(0, .ref x0), (1, .int x1), (2, .int x2)] []
  unfold p_M_is at k
  obtain ⟨z_3, h1, k⟩ := k
  obtain ⟨z_4, h2, k⟩ := k
  obtain ⟨hz9, k⟩ := k
  have hle_u : x_le u u := x_le.rf u
  refine ⟨some (.int z_4), u, ⟨z_4, rfl, k⟩, hle_u, ?_⟩
  intro p e s m args below meth c A H locs ls F hw hl
  obtain ⟨⟨hx, hb, hml, hown, hts⟩, hr, hlocks, hmn⟩ := id F
  refine lv_aload_n hx hb d_M_is_0 rfl (lv_at hl 0 rfl) ?_
  refine xr_get hx hb hts (xmu uws_M) hown hw h1 rfl (by decide) (hts _ (xm w_869)) (fun _ h9 => h9) d_M_is_1 ?_
  refine lv_sipush (v := 1024) hx hb d_M_is_4 (by decide) ?_
  refine lv_iload_n hx hb d_M_is_7 rfl (lv_at hl 1 rfl) ?_
  refine lv_imul hx hb d_M_is_8 ?_
  refine lv_iload_n hx hb d_M_is_9 rfl (lv_at hl 2 rfl) ?_
  refine lv_iadd hx hb d_M_is_10 ?_
  refine xr_zald hx hb hw h2 d_M_is_11 ?_
  exact xr_zret F rfl hz9 hw d_M_is_12
set_option maxRecDepth 100000 in
set_option maxHeartbeats 4000000 in
theorem t_M_take_L2 (l : Launch) (Z : XZ) (u0 : PS) {Kv : Option Value → PS → Prop} {E33 : PS → Prop} (x0 : Nat) (x1 : Int32) (hE33 : ∀ (v : PS), E33 v → XN l Z i_M_take u0 Kv v 33 [] []) : ∀ (n : Nat) (x2 : Int32) (u : PS), p_M_take_L2 x0 x1 E33 n x2 u → XN l Z i_M_take u0 Kv u 2 [(0, .ref x0), (1, .int x1), (2, .int x2)] [] := by
  intro n
  induction n with
  | zero => intro x2 u k; exact False.elim k
  | succ n ih =>
    intro x2 u k
    rw [p_M_take_L2] at k
    by_cases hc1 : 1024 ≤ x2
    · have k := k.1 hc1
      obtain ⟨rv, v9, hK, hle_u, w9⟩ := hE33 u k
      refine ⟨rv, v9, hK, hle_u, ?_⟩
      intro p e s m args below meth c A H locs ls F hw hl
      obtain ⟨⟨hx, hb, hml, hown, hts⟩, hr, hlocks, hmn⟩ := id F
      refine lv_iload_n hx hb d_M_take_2 rfl (lv_at hl 2 rfl) ?_
      refine lv_sipush (v := 1024) hx hb d_M_take_3 (by decide) ?_
      refine lv_icmp_ge (tgt := 33) hx hb d_M_take_6 (by decide) (fun _ => ?_) (fun c9 => absurd hc1 c9)
      exact w9 p e s m args below meth c A H locs ls F hw (lv_sub hl [] rfl)
    · have k := k.2 hc1
      obtain ⟨z_8, h2, k⟩ := k
      obtain ⟨z_9, h3, k⟩ := k
      obtain ⟨z_10, h4, k⟩ := k
      obtain ⟨u_11, h5, k⟩ := k
      obtain ⟨y6, ey6⟩ : ∃ y9 : Int32, y9 = x2 + 1 := ⟨_, rfl⟩
      have k := k y6 ey6
      obtain ⟨rv, v9, hK, hle_u_11, w9⟩ := ih y6 u_11 k
      have hle_u : x_le u v9 := (h5.le).tr hle_u_11
      refine ⟨rv, v9, hK, hle_u, ?_⟩
      intro p e s m args below meth c A H locs ls F hw hl
      obtain ⟨⟨hx, hb, hml, hown, hts⟩, hr, hlocks, hmn⟩ := id F
      refine lv_iload_n hx hb d_M_take_2 rfl (lv_at hl 2 rfl) ?_
      refine lv_sipush (v := 1024) hx hb d_M_take_3 (by decide) ?_
      refine lv_icmp_ge (tgt := 33) hx hb d_M_take_6 (by decide) (fun c9 => absurd c9 hc1) (fun _ => ?_)
      refine lv_aload_n hx hb d_M_take_9 rfl (lv_at hl 0 rfl) ?_
      refine xr_get hx hb hts (xmu uws_M) hown hw h2 rfl (by decide) (hts _ (xm w_869)) (fun _ h9 => h9) d_M_take_10 ?_
      refine lv_sipush (v := 1024) hx hb d_M_take_13 (by decide) ?_
      refine lv_iload_n hx hb d_M_take_16 rfl (lv_at hl 1 rfl) ?_
      refine lv_imul hx hb d_M_take_17 ?_
      refine lv_iload_n hx hb d_M_take_18 rfl (lv_at hl 2 rfl) ?_
      refine lv_iadd hx hb d_M_take_19 ?_
      refine lv_aload_n hx hb d_M_take_20 rfl (lv_at hl 0 rfl) ?_
      refine xr_get hx hb hts (xmu uws_M) hown hw h3 rfl (by decide) (hts _ (xm w_870)) (fun _ h9 => h9) d_M_take_21 ?_
      refine lv_iload_n hx hb d_M_take_24 rfl (lv_at hl 2 rfl) ?_
      refine xr_zald hx hb hw h4 d_M_take_25 ?_
      refine xr_zast hx hb hw h5 d_M_take_26 (fun H locs hw => ?_)
      refine lv_iinc (v := y6) (lv' := [(2, .int y6), (0, .ref x0), (1, .int x1)]) hx hb d_M_take_27 hl (k := 2) rfl (by subst ey6; rfl) (by decide) rfl (fun ls hl => ?_)
      refine lv_goto (tgt := 2) hx hb d_M_take_30 (by decide) ?_
      exact w9 p e s m args below meth c A H locs ls F hw (lv_sub hl [1, 2, 0] rfl)
set_option maxRecDepth 100000 in
set_option maxHeartbeats 4000000 in
theorem c_M_take (l : Launch) (Z : XZ) (x0 : Nat) (x1 : Int32) (u : PS) (K : PS → Prop) (k : p_M_take x0 x1 u K) : ∃ (rv : Option Value) (u1 : PS), (kV K) rv u1 ∧ XMet l Z i_M_take [.ref x0, .int x1] u rv u1 := by
  refine x_met (by decide) rfl (Nat.le_of_ble_eq_true rfl) ?_
  show XN l Z i_M_take u (kV K) u 0 [(0, .ref x0), (1, .int x1)] []
  unfold p_M_take at k
  obtain ⟨n1, k⟩ := k
  have hx3 : ∀ (v2 : PS), (K v2) → XN l Z i_M_take u (kV K) v2 33 [] [] := by
    intro v2 k
    have hle_v2 : x_le v2 v2 := x_le.rf v2
    refine ⟨none, v2, ⟨rfl, k⟩, hle_v2, ?_⟩
    intro p e s m args below meth c A H locs ls F hw hl
    obtain ⟨⟨hx, hb, hml, hown, hts⟩, hr, hlocks, hmn⟩ := id F
    exact xr_vret F rfl hw d_M_take_33
  obtain ⟨rv, v9, hK, hle_u, w9⟩ := t_M_take_L2 l Z u x0 x1 hx3 n1 (0 : Int32) u k
  refine ⟨rv, v9, hK, hle_u, ?_⟩
  intro p e s m args below meth c A H locs ls F hw hl
  obtain ⟨⟨hx, hb, hml, hown, hts⟩, hr, hlocks, hmn⟩ := id F
  refine lv_iconst (v := 0) hx hb d_M_take_0 (by decide) ?_
  refine lv_istore_n (lv' := [(2, .int 0), (0, .ref x0), (1, .int x1)]) hx hb d_M_take_1 rfl hl (by decide) rfl (fun ls hl => ?_)
  exact w9 p e s m args below meth c A H locs ls F hw (lv_sub hl [1, 2, 0] rfl)
set_option maxRecDepth 100000 in
set_option maxHeartbeats 4000000 in
theorem t_M_constant_J70 (l : Launch) (Z : XZ) (u0 : PS) {Kv : Option Value → PS → Prop} {R : Int32 → PS → Prop} {E77 : PS → Prop} (x0 : Nat) (x1 : Int32) (x2 : Int32) (x3 : Int32) (s0 : Nat) (s1 : Int32) (s2 : Int32) (u : PS) (hR : ∀ (y3 : Int32) (v : PS), R y3 v → XN l Z i_M_constant u0 Kv v 42 [(0, .ref x0), (1, .int x1), (2, .int x2), (3, .int y3)] []) (hE77 : ∀ (v : PS), E77 v → XN l Z i_M_constant u0 Kv v 77 [] []) (k : (p_M_constant_J70 R E77 x0 x1 x2 x3 s0 s1 s2 u)) : XN l Z i_M_constant u0 Kv u 70 [(0, .ref x0), (1, .int x1), (2, .int x2), (3, .int x3)] [.int s2, .int s1, .ref s0] := by
  unfold p_M_constant_J70 at k
  obtain ⟨u_21, h1, k⟩ := k
  obtain ⟨y2, ey2⟩ : ∃ y9 : Int32, y9 = x3 + 1 := ⟨_, rfl⟩
  have k := k y2 ey2
  obtain ⟨rv, v9, hK, hle_u_21, w9⟩ := hR y2 u_21 k
  have hle_u : x_le u v9 := (h1.le).tr hle_u_21
  refine ⟨rv, v9, hK, hle_u, ?_⟩
  intro p e s m args below meth c A H locs ls F hw hl
  obtain ⟨⟨hx, hb, hml, hown, hts⟩, hr, hlocks, hmn⟩ := id F
  refine xr_zast hx hb hw h1 d_M_constant_70 (fun H locs hw => ?_)
  refine lv_iinc (v := y2) (lv' := [(3, .int y2), (0, .ref x0), (1, .int x1), (2, .int x2)]) hx hb d_M_constant_71 hl (k := 3) rfl (by subst ey2; rfl) (by decide) rfl (fun ls hl => ?_)
  refine lv_goto (tgt := 42) hx hb d_M_constant_74 (by decide) ?_
  exact w9 p e s m args below meth c A H locs ls F hw (lv_sub hl [1, 2, 3, 0] rfl)
set_option maxRecDepth 100000 in
set_option maxHeartbeats 4000000 in
theorem t_M_constant_L42 (l : Launch) (Z : XZ) (u0 : PS) {Kv : Option Value → PS → Prop} {E77 : PS → Prop} (x0 : Nat) (x1 : Int32) (x2 : Int32) (hE77 : ∀ (v : PS), E77 v → XN l Z i_M_constant u0 Kv v 77 [] []) : ∀ (n : Nat) (x3 : Int32) (u : PS), p_M_constant_L42 x0 x1 x2 E77 n x3 u → XN l Z i_M_constant u0 Kv u 42 [(0, .ref x0), (1, .int x1), (2, .int x2), (3, .int x3)] [] := by
  intro n
  induction n with
  | zero => intro x3 u k; exact False.elim k
  | succ n ih =>
    intro x3 u k
    rw [p_M_constant_L42] at k
    by_cases hc1 : 1024 ≤ x3
    · have k := k.1 hc1
      obtain ⟨rv, v9, hK, hle_u, w9⟩ := hE77 u k
      refine ⟨rv, v9, hK, hle_u, ?_⟩
      intro p e s m args below meth c A H locs ls F hw hl
      obtain ⟨⟨hx, hb, hml, hown, hts⟩, hr, hlocks, hmn⟩ := id F
      refine lv_iload_n hx hb d_M_constant_42 rfl (lv_at hl 3 rfl) ?_
      refine lv_sipush (v := 1024) hx hb d_M_constant_43 (by decide) ?_
      refine lv_icmp_ge (tgt := 77) hx hb d_M_constant_46 (by decide) (fun _ => ?_) (fun c9 => absurd hc1 c9)
      exact w9 p e s m args below meth c A H locs ls F hw (lv_sub hl [] rfl)
    · have k := k.2 hc1
      obtain ⟨z_20, h2, k⟩ := k
      by_cases hc3 : x2 = 1
      · have k := k.2 hc3
        obtain ⟨rv, v9, hK, hle_u, w9⟩ := t_M_constant_J70 l Z u0 x0 x1 x2 x3 z_20 (((1024 : Int32) * x1) + x3) (1 : Int32) u ih hE77 k
        refine ⟨rv, v9, hK, hle_u, ?_⟩
        intro p e s m args below meth c A H locs ls F hw hl
        obtain ⟨⟨hx, hb, hml, hown, hts⟩, hr, hlocks, hmn⟩ := id F
        refine lv_iload_n hx hb d_M_constant_42 rfl (lv_at hl 3 rfl) ?_
        refine lv_sipush (v := 1024) hx hb d_M_constant_43 (by decide) ?_
        refine lv_icmp_ge (tgt := 77) hx hb d_M_constant_46 (by decide) (fun c9 => absurd c9 hc1) (fun _ => ?_)
        refine lv_aload_n hx hb d_M_constant_49 rfl (lv_at hl 0 rfl) ?_
        refine xr_get hx hb hts (xmu uws_M) hown hw h2 rfl (by decide) (hts _ (xm w_869)) (fun _ h9 => h9) d_M_constant_50 ?_
        refine lv_sipush (v := 1024) hx hb d_M_constant_53 (by decide) ?_
        refine lv_iload_n hx hb d_M_constant_56 rfl (lv_at hl 1 rfl) ?_
        refine lv_imul hx hb d_M_constant_57 ?_
        refine lv_iload_n hx hb d_M_constant_58 rfl (lv_at hl 3 rfl) ?_
        refine lv_iadd hx hb d_M_constant_59 ?_
        refine lv_iload_n hx hb d_M_constant_60 rfl (lv_at hl 2 rfl) ?_
        refine lv_iconst (v := 1) hx hb d_M_constant_61 (by decide) ?_
        refine lv_icmp_ne (tgt := 69) hx hb d_M_constant_62 (by decide) (fun c9 => absurd hc3 c9) (fun _ => ?_)
        refine lv_iconst (v := 1) hx hb d_M_constant_65 (by decide) ?_
        refine lv_goto (tgt := 70) hx hb d_M_constant_66 (by decide) ?_
        exact w9 p e s m args below meth c A H locs ls F hw (lv_sub hl [0, 1, 2, 3] rfl)
      · have k := k.1 hc3
        obtain ⟨rv, v9, hK, hle_u, w9⟩ := t_M_constant_J70 l Z u0 x0 x1 x2 x3 z_20 (((1024 : Int32) * x1) + x3) (0 : Int32) u ih hE77 k
        refine ⟨rv, v9, hK, hle_u, ?_⟩
        intro p e s m args below meth c A H locs ls F hw hl
        obtain ⟨⟨hx, hb, hml, hown, hts⟩, hr, hlocks, hmn⟩ := id F
        refine lv_iload_n hx hb d_M_constant_42 rfl (lv_at hl 3 rfl) ?_
        refine lv_sipush (v := 1024) hx hb d_M_constant_43 (by decide) ?_
        refine lv_icmp_ge (tgt := 77) hx hb d_M_constant_46 (by decide) (fun c9 => absurd c9 hc1) (fun _ => ?_)
        refine lv_aload_n hx hb d_M_constant_49 rfl (lv_at hl 0 rfl) ?_
        refine xr_get hx hb hts (xmu uws_M) hown hw h2 rfl (by decide) (hts _ (xm w_869)) (fun _ h9 => h9) d_M_constant_50 ?_
        refine lv_sipush (v := 1024) hx hb d_M_constant_53 (by decide) ?_
        refine lv_iload_n hx hb d_M_constant_56 rfl (lv_at hl 1 rfl) ?_
        refine lv_imul hx hb d_M_constant_57 ?_
        refine lv_iload_n hx hb d_M_constant_58 rfl (lv_at hl 3 rfl) ?_
        refine lv_iadd hx hb d_M_constant_59 ?_
        refine lv_iload_n hx hb d_M_constant_60 rfl (lv_at hl 2 rfl) ?_
        refine lv_iconst (v := 1) hx hb d_M_constant_61 (by decide) ?_
        refine lv_icmp_ne (tgt := 69) hx hb d_M_constant_62 (by decide) (fun _ => ?_) (fun c9 => absurd c9 hc3)
        refine lv_iconst (v := 0) hx hb d_M_constant_69 (by decide) ?_
        exact w9 p e s m args below meth c A H locs ls F hw (lv_sub hl [0, 1, 2, 3] rfl)
set_option maxRecDepth 100000 in
set_option maxHeartbeats 4000000 in
theorem t_M_constant_J34 (l : Launch) (Z : XZ) (u0 : PS) {K : PS → Prop} (x0 : Nat) (x1 : Int32) (x2 : Int32) (s0 : Nat) (s1 : Int32) (s2 : Int32) (u : PS) (k : (p_M_constant_J34 K x0 x1 x2 s0 s1 s2 u)) : XN l Z i_M_constant u0 (kV K) u 34 [(0, .ref x0), (1, .int x1), (2, .int x2)] [.int s2, .int s1, .ref s0] := by
  unfold p_M_constant_J34 at k
  obtain ⟨h2, k⟩ := k
  obtain ⟨_, u_18, ⟨r_19, rfl, k⟩, hM1⟩ := c_M_refuse l Z s0 s1 s2 u _ k
  by_cases hc3 : r_19 = 0
  · have k := k.2 hc3
    obtain ⟨n4, k⟩ := k
    have hx6 : ∀ (v5 : PS), (K v5) → XN l Z i_M_constant u0 (kV K) v5 77 [] [] := by
      intro v5 k
      have hle_v5 : x_le v5 v5 := x_le.rf v5
      refine ⟨none, v5, ⟨rfl, k⟩, hle_v5, ?_⟩
      intro p e s m args below meth c A H locs ls F hw hl
      obtain ⟨⟨hx, hb, hml, hown, hts⟩, hr, hlocks, hmn⟩ := id F
      exact xr_vret F rfl hw d_M_constant_77
    obtain ⟨rv, v9, hK, hle_u_18, w9⟩ := t_M_constant_L42 l Z u0 x0 x1 x2 hx6 n4 (0 : Int32) u_18 k
    have hle_u : x_le u v9 := (hM1.1).tr hle_u_18
    refine ⟨rv, v9, hK, hle_u, ?_⟩
    intro p e s m args below meth c A H locs ls F hw hl
    obtain ⟨⟨hx, hb, hml, hown, hts⟩, hr, hlocks, hmn⟩ := id F
    refine xr_cV (As := [.int s1, .int s2]) (rest := []) ⟨hx, hb, hml, hown, hts⟩ hw hM1 hle_u_18 (fun _ _ => ⟨callB_of 2 hts (xgood w_929) rfl rfl rfl (hts _ (xm w_8)) (hts _ (xm w_926)) ⟨by decide, by decide, by decide +kernel⟩ ⟨Nat.le_of_ble_eq_true rfl, Nat.le_of_ble_eq_true rfl⟩, (hts _ (xm w_928)), (hts _ (xm wp_38))⟩) (qc := (R_M, F_M, 14)) rfl rfl h2 rfl hl.1 rfl (Nat.le_of_ble_eq_true rfl) d_M_constant_34 (fun H locs hw => ?_)
    refine W.eq (g2 := F0 m 37 ls [.int r_19]) rfl ?_
    refine lv_if_ne (tgt := 77) hx hb d_M_constant_37 (by decide) (fun c9 => absurd hc3 c9) (fun _ => ?_)
    refine lv_iconst (v := 0) hx hb d_M_constant_40 (by decide) ?_
    refine lv_istore_n (lv' := [(3, .int 0), (0, .ref x0), (1, .int x1), (2, .int x2)]) hx hb d_M_constant_41 rfl hl (by decide) rfl (fun ls hl => ?_)
    exact w9 p e s m args below meth c A H locs ls F hw (lv_sub hl [1, 2, 3, 0] rfl)
  · have k := k.1 hc3
    have hle_u_18 : x_le u_18 u_18 := x_le.rf u_18
    have hle_u : x_le u u_18 := (hM1.1).tr hle_u_18
    refine ⟨none, u_18, ⟨rfl, k⟩, hle_u, ?_⟩
    intro p e s m args below meth c A H locs ls F hw hl
    obtain ⟨⟨hx, hb, hml, hown, hts⟩, hr, hlocks, hmn⟩ := id F
    refine xr_cV (As := [.int s1, .int s2]) (rest := []) ⟨hx, hb, hml, hown, hts⟩ hw hM1 hle_u_18 (fun _ _ => ⟨callB_of 2 hts (xgood w_929) rfl rfl rfl (hts _ (xm w_8)) (hts _ (xm w_926)) ⟨by decide, by decide, by decide +kernel⟩ ⟨Nat.le_of_ble_eq_true rfl, Nat.le_of_ble_eq_true rfl⟩, (hts _ (xm w_928)), (hts _ (xm wp_38))⟩) (qc := (R_M, F_M, 14)) rfl rfl h2 rfl hl.1 rfl (Nat.le_of_ble_eq_true rfl) d_M_constant_34 (fun H locs hw => ?_)
    refine W.eq (g2 := F0 m 37 ls [.int r_19]) rfl ?_
    refine lv_if_ne (tgt := 77) hx hb d_M_constant_37 (by decide) (fun _ => ?_) (fun c9 => absurd c9 hc3)
    exact xr_vret F rfl hw d_M_constant_77
set_option maxRecDepth 100000 in
set_option maxHeartbeats 4000000 in
theorem t_M_constant_J33 (l : Launch) (Z : XZ) (u0 : PS) {K : PS → Prop} (x0 : Nat) (x1 : Int32) (x2 : Int32) (s0 : Nat) (s1 : Int32) (u : PS) (k : (p_M_constant_J33 K x0 x1 x2 s0 s1 u)) : XN l Z i_M_constant u0 (kV K) u 33 [(0, .ref x0), (1, .int x1), (2, .int x2)] [.int s1, .ref s0] := by
  unfold p_M_constant_J33 at k
  obtain ⟨rv, v9, hK, hle_u, w9⟩ := t_M_constant_J34 l Z u0 x0 x1 x2 s0 s1 (0 : Int32) u k
  refine ⟨rv, v9, hK, hle_u, ?_⟩
  intro p e s m args below meth c A H locs ls F hw hl
  obtain ⟨⟨hx, hb, hml, hown, hts⟩, hr, hlocks, hmn⟩ := id F
  refine lv_iconst (v := 0) hx hb d_M_constant_33 (by decide) ?_
  exact w9 p e s m args below meth c A H locs ls F hw (lv_sub hl [0, 1, 2] rfl)
set_option maxRecDepth 100000 in
set_option maxHeartbeats 4000000 in
theorem t_M_constant_J13 (l : Launch) (Z : XZ) (u0 : PS) {K : PS → Prop} (x0 : Nat) (x1 : Int32) (x2 : Int32) (s0 : Nat) (s1 : Int32) (u : PS) (k : (p_M_constant_J13 K x0 x1 x2 s0 s1 u)) : XN l Z i_M_constant u0 (kV K) u 13 [(0, .ref x0), (1, .int x1), (2, .int x2)] [.int s1, .ref s0] := by
  unfold p_M_constant_J13 at k
  obtain ⟨_, u_16, ⟨r_17, rfl, k⟩, hM1⟩ := c_M_isPlace l Z x1 u _ k
  by_cases hc2 : r_17 = 0
  · have k := k.1 hc2
    obtain ⟨rv, v9, hK, hle_u_16, w9⟩ := t_M_constant_J33 l Z u0 x0 x1 x2 s0 s1 u_16 k
    have hle_u : x_le u v9 := (hM1.1).tr hle_u_16
    refine ⟨rv, v9, hK, hle_u, ?_⟩
    intro p e s m args below meth c A H locs ls F hw hl
    obtain ⟨⟨hx, hb, hml, hown, hts⟩, hr, hlocks, hmn⟩ := id F
    refine lv_iload_n hx hb d_M_constant_13 rfl (lv_at hl 1 rfl) ?_
    refine xr_cS (As := [.int x1]) (rest := [.int s1, .ref s0]) ⟨hx, hb, hml, hown, hts⟩ hw hM1 hle_u_16 (fun _ _ => ⟨callB_of 1 hts (xgood w_922) rfl rfl rfl (hts _ (xm w_8)) (hts _ (xm w_920)) ⟨by decide, by decide, by decide +kernel⟩ ⟨Nat.le_of_ble_eq_true rfl, Nat.le_of_ble_eq_true rfl⟩, (hts _ (xm w_921))⟩) rfl hl.1 rfl (Nat.le_of_ble_eq_true rfl) d_M_constant_14 (fun H locs hw => ?_)
    refine W.eq (g2 := F0 m 17 ls [.int r_17, .int s1, .ref s0]) rfl ?_
    refine lv_if_eq (tgt := 33) hx hb d_M_constant_17 (by decide) (fun _ => ?_) (fun c9 => absurd hc2 c9)
    exact w9 p e s m args below meth c A H locs ls F hw (lv_sub hl [0, 1, 2] rfl)
  · have k := k.2 hc2
    obtain ⟨_, u_22, ⟨r_23, rfl, k⟩, hM3⟩ := c_M_in l Z x2 (0 : Int32) (1 : Int32) u_16 _ k
    by_cases hc4 : r_23 = 0
    · have k := k.2 hc4
      obtain ⟨rv, v9, hK, hle_u_22, w9⟩ := t_M_constant_J34 l Z u0 x0 x1 x2 s0 s1 (1 : Int32) u_22 k
      have hle_u_16 : x_le u_16 v9 := (hM3.1).tr hle_u_22
      have hle_u : x_le u v9 := (hM1.1).tr hle_u_16
      refine ⟨rv, v9, hK, hle_u, ?_⟩
      intro p e s m args below meth c A H locs ls F hw hl
      obtain ⟨⟨hx, hb, hml, hown, hts⟩, hr, hlocks, hmn⟩ := id F
      refine lv_iload_n hx hb d_M_constant_13 rfl (lv_at hl 1 rfl) ?_
      refine xr_cS (As := [.int x1]) (rest := [.int s1, .ref s0]) ⟨hx, hb, hml, hown, hts⟩ hw hM1 hle_u_16 (fun _ _ => ⟨callB_of 1 hts (xgood w_922) rfl rfl rfl (hts _ (xm w_8)) (hts _ (xm w_920)) ⟨by decide, by decide, by decide +kernel⟩ ⟨Nat.le_of_ble_eq_true rfl, Nat.le_of_ble_eq_true rfl⟩, (hts _ (xm w_921))⟩) rfl hl.1 rfl (Nat.le_of_ble_eq_true rfl) d_M_constant_14 (fun H locs hw => ?_)
      refine W.eq (g2 := F0 m 17 ls [.int r_17, .int s1, .ref s0]) rfl ?_
      refine lv_if_eq (tgt := 33) hx hb d_M_constant_17 (by decide) (fun c9 => absurd c9 hc2) (fun _ => ?_)
      refine lv_iload_n hx hb d_M_constant_20 rfl (lv_at hl 2 rfl) ?_
      refine lv_iconst (v := 0) hx hb d_M_constant_21 (by decide) ?_
      refine lv_iconst (v := 1) hx hb d_M_constant_22 (by decide) ?_
      refine xr_cS (As := [.int x2, .int 0, .int 1]) (rest := [.int s1, .ref s0]) ⟨hx, hb, hml, hown, hts⟩ hw hM3 hle_u_22 (fun _ _ => ⟨callB_of 3 hts (xgood w_925) rfl rfl rfl (hts _ (xm w_8)) (hts _ (xm w_923)) ⟨by decide, by decide, by decide +kernel⟩ ⟨Nat.le_of_ble_eq_true rfl, Nat.le_of_ble_eq_true rfl⟩, (hts _ (xm w_924))⟩) rfl hl.1 rfl (Nat.le_of_ble_eq_true rfl) d_M_constant_23 (fun H locs hw => ?_)
      refine W.eq (g2 := F0 m 26 ls [.int r_23, .int s1, .ref s0]) rfl ?_
      refine lv_if_ne (tgt := 33) hx hb d_M_constant_26 (by decide) (fun c9 => absurd hc4 c9) (fun _ => ?_)
      refine lv_iconst (v := 1) hx hb d_M_constant_29 (by decide) ?_
      refine lv_goto (tgt := 34) hx hb d_M_constant_30 (by decide) ?_
      exact w9 p e s m args below meth c A H locs ls F hw (lv_sub hl [0, 1, 2] rfl)
    · have k := k.1 hc4
      obtain ⟨rv, v9, hK, hle_u_22, w9⟩ := t_M_constant_J33 l Z u0 x0 x1 x2 s0 s1 u_22 k
      have hle_u_16 : x_le u_16 v9 := (hM3.1).tr hle_u_22
      have hle_u : x_le u v9 := (hM1.1).tr hle_u_16
      refine ⟨rv, v9, hK, hle_u, ?_⟩
      intro p e s m args below meth c A H locs ls F hw hl
      obtain ⟨⟨hx, hb, hml, hown, hts⟩, hr, hlocks, hmn⟩ := id F
      refine lv_iload_n hx hb d_M_constant_13 rfl (lv_at hl 1 rfl) ?_
      refine xr_cS (As := [.int x1]) (rest := [.int s1, .ref s0]) ⟨hx, hb, hml, hown, hts⟩ hw hM1 hle_u_16 (fun _ _ => ⟨callB_of 1 hts (xgood w_922) rfl rfl rfl (hts _ (xm w_8)) (hts _ (xm w_920)) ⟨by decide, by decide, by decide +kernel⟩ ⟨Nat.le_of_ble_eq_true rfl, Nat.le_of_ble_eq_true rfl⟩, (hts _ (xm w_921))⟩) rfl hl.1 rfl (Nat.le_of_ble_eq_true rfl) d_M_constant_14 (fun H locs hw => ?_)
      refine W.eq (g2 := F0 m 17 ls [.int r_17, .int s1, .ref s0]) rfl ?_
      refine lv_if_eq (tgt := 33) hx hb d_M_constant_17 (by decide) (fun c9 => absurd c9 hc2) (fun _ => ?_)
      refine lv_iload_n hx hb d_M_constant_20 rfl (lv_at hl 2 rfl) ?_
      refine lv_iconst (v := 0) hx hb d_M_constant_21 (by decide) ?_
      refine lv_iconst (v := 1) hx hb d_M_constant_22 (by decide) ?_
      refine xr_cS (As := [.int x2, .int 0, .int 1]) (rest := [.int s1, .ref s0]) ⟨hx, hb, hml, hown, hts⟩ hw hM3 hle_u_22 (fun _ _ => ⟨callB_of 3 hts (xgood w_925) rfl rfl rfl (hts _ (xm w_8)) (hts _ (xm w_923)) ⟨by decide, by decide, by decide +kernel⟩ ⟨Nat.le_of_ble_eq_true rfl, Nat.le_of_ble_eq_true rfl⟩, (hts _ (xm w_924))⟩) rfl hl.1 rfl (Nat.le_of_ble_eq_true rfl) d_M_constant_23 (fun H locs hw => ?_)
      refine W.eq (g2 := F0 m 26 ls [.int r_23, .int s1, .ref s0]) rfl ?_
      refine lv_if_ne (tgt := 33) hx hb d_M_constant_26 (by decide) (fun _ => ?_) (fun c9 => absurd c9 hc4)
      exact w9 p e s m args below meth c A H locs ls F hw (lv_sub hl [0, 1, 2] rfl)
set_option maxRecDepth 100000 in
set_option maxHeartbeats 4000000 in
theorem c_M_constant (l : Launch) (Z : XZ) (x0 : Nat) (x1 : Int32) (x2 : Int32) (u : PS) (K : PS → Prop) (k : p_M_constant x0 x1 x2 u K) : ∃ (rv : Option Value) (u1 : PS), (kV K) rv u1 ∧ XMet l Z i_M_constant [.ref x0, .int x1, .int x2] u rv u1 := by
  refine x_met (by decide) rfl (Nat.le_of_ble_eq_true rfl) ?_
  show XN l Z i_M_constant u (kV K) u 0 [(0, .ref x0), (1, .int x1), (2, .int x2)] []
  unfold p_M_constant at k
  obtain ⟨_, u_14, ⟨r_15, rfl, k⟩, hM1⟩ := c_M_isPlace l Z x1 u _ k
  by_cases hc2 : r_15 = 0
  · have k := k.2 hc2
    obtain ⟨rv, v9, hK, hle_u_14, w9⟩ := t_M_constant_J13 l Z u x0 x1 x2 x0 (1 : Int32) u_14 k
    have hle_u : x_le u v9 := (hM1.1).tr hle_u_14
    refine ⟨rv, v9, hK, hle_u, ?_⟩
    intro p e s m args below meth c A H locs ls F hw hl
    obtain ⟨⟨hx, hb, hml, hown, hts⟩, hr, hlocks, hmn⟩ := id F
    refine lv_aload_n hx hb d_M_constant_0 rfl (lv_at hl 0 rfl) ?_
    refine lv_iload_n hx hb d_M_constant_1 rfl (lv_at hl 1 rfl) ?_
    refine xr_cS (As := [.int x1]) (rest := [.ref x0]) ⟨hx, hb, hml, hown, hts⟩ hw hM1 hle_u_14 (fun _ _ => ⟨callB_of 1 hts (xgood w_922) rfl rfl rfl (hts _ (xm w_8)) (hts _ (xm w_920)) ⟨by decide, by decide, by decide +kernel⟩ ⟨Nat.le_of_ble_eq_true rfl, Nat.le_of_ble_eq_true rfl⟩, (hts _ (xm w_921))⟩) rfl hl.1 rfl (Nat.le_of_ble_eq_true rfl) d_M_constant_2 (fun H locs hw => ?_)
    refine W.eq (g2 := F0 m 5 ls [.int r_15, .ref x0]) rfl ?_
    refine lv_if_ne (tgt := 12) hx hb d_M_constant_5 (by decide) (fun c9 => absurd hc2 c9) (fun _ => ?_)
    refine lv_iconst (v := 1) hx hb d_M_constant_8 (by decide) ?_
    refine lv_goto (tgt := 13) hx hb d_M_constant_9 (by decide) ?_
    exact w9 p e s m args below meth c A H locs ls F hw (lv_sub hl [0, 1, 2] rfl)
  · have k := k.1 hc2
    obtain ⟨rv, v9, hK, hle_u_14, w9⟩ := t_M_constant_J13 l Z u x0 x1 x2 x0 (0 : Int32) u_14 k
    have hle_u : x_le u v9 := (hM1.1).tr hle_u_14
    refine ⟨rv, v9, hK, hle_u, ?_⟩
    intro p e s m args below meth c A H locs ls F hw hl
    obtain ⟨⟨hx, hb, hml, hown, hts⟩, hr, hlocks, hmn⟩ := id F
    refine lv_aload_n hx hb d_M_constant_0 rfl (lv_at hl 0 rfl) ?_
    refine lv_iload_n hx hb d_M_constant_1 rfl (lv_at hl 1 rfl) ?_
    refine xr_cS (As := [.int x1]) (rest := [.ref x0]) ⟨hx, hb, hml, hown, hts⟩ hw hM1 hle_u_14 (fun _ _ => ⟨callB_of 1 hts (xgood w_922) rfl rfl rfl (hts _ (xm w_8)) (hts _ (xm w_920)) ⟨by decide, by decide, by decide +kernel⟩ ⟨Nat.le_of_ble_eq_true rfl, Nat.le_of_ble_eq_true rfl⟩, (hts _ (xm w_921))⟩) rfl hl.1 rfl (Nat.le_of_ble_eq_true rfl) d_M_constant_2 (fun H locs hw => ?_)
    refine W.eq (g2 := F0 m 5 ls [.int r_15, .ref x0]) rfl ?_
    refine lv_if_ne (tgt := 12) hx hb d_M_constant_5 (by decide) (fun _ => ?_) (fun c9 => absurd c9 hc2)
    refine lv_iconst (v := 0) hx hb d_M_constant_12 (by decide) ?_
    exact w9 p e s m args below meth c A H locs ls F hw (lv_sub hl [0, 1, 2] rfl)
set_option maxRecDepth 100000 in
set_option maxHeartbeats 4000000 in
theorem t_M_input_J72 (l : Launch) (Z : XZ) (u0 : PS) {Kv : Option Value → PS → Prop} {R : Int32 → PS → Prop} {E79 : PS → Prop} (x0 : Nat) (x1 : Int32) (x2 : Int32) (x3 : Int32) (s0 : Nat) (s1 : Int32) (s2 : Int32) (u : PS) (hR : ∀ (y3 : Int32) (v : PS), R y3 v → XN l Z i_M_input u0 Kv v 40 [(0, .ref x0), (1, .int x1), (2, .int x2), (3, .int y3)] []) (hE79 : ∀ (v : PS), E79 v → XN l Z i_M_input u0 Kv v 79 [] []) (k : (p_M_input_J72 R E79 x0 x1 x2 x3 s0 s1 s2 u)) : XN l Z i_M_input u0 Kv u 72 [(0, .ref x0), (1, .int x1), (2, .int x2), (3, .int x3)] [.int s2, .int s1, .ref s0] := by
  unfold p_M_input_J72 at k
  obtain ⟨u_21, h1, k⟩ := k
  obtain ⟨y2, ey2⟩ : ∃ y9 : Int32, y9 = x3 + 1 := ⟨_, rfl⟩
  have k := k y2 ey2
  obtain ⟨rv, v9, hK, hle_u_21, w9⟩ := hR y2 u_21 k
  have hle_u : x_le u v9 := (h1.le).tr hle_u_21
  refine ⟨rv, v9, hK, hle_u, ?_⟩
  intro p e s m args below meth c A H locs ls F hw hl
  obtain ⟨⟨hx, hb, hml, hown, hts⟩, hr, hlocks, hmn⟩ := id F
  refine xr_zast hx hb hw h1 d_M_input_72 (fun H locs hw => ?_)
  refine lv_iinc (v := y2) (lv' := [(3, .int y2), (0, .ref x0), (1, .int x1), (2, .int x2)]) hx hb d_M_input_73 hl (k := 3) rfl (by subst ey2; rfl) (by decide) rfl (fun ls hl => ?_)
  refine lv_goto (tgt := 40) hx hb d_M_input_76 (by decide) ?_
  exact w9 p e s m args below meth c A H locs ls F hw (lv_sub hl [1, 2, 3, 0] rfl)
set_option maxRecDepth 100000 in
set_option maxHeartbeats 4000000 in
theorem t_M_input_L40 (l : Launch) (Z : XZ) (u0 : PS) {Kv : Option Value → PS → Prop} {E79 : PS → Prop} (x0 : Nat) (x1 : Int32) (x2 : Int32) (hE79 : ∀ (v : PS), E79 v → XN l Z i_M_input u0 Kv v 79 [] []) : ∀ (n : Nat) (x3 : Int32) (u : PS), p_M_input_L40 x0 x1 x2 E79 n x3 u → XN l Z i_M_input u0 Kv u 40 [(0, .ref x0), (1, .int x1), (2, .int x2), (3, .int x3)] [] := by
  intro n
  induction n with
  | zero => intro x3 u k; exact False.elim k
  | succ n ih =>
    intro x3 u k
    rw [p_M_input_L40] at k
    by_cases hc1 : 1024 ≤ x3
    · have k := k.1 hc1
      obtain ⟨rv, v9, hK, hle_u, w9⟩ := hE79 u k
      refine ⟨rv, v9, hK, hle_u, ?_⟩
      intro p e s m args below meth c A H locs ls F hw hl
      obtain ⟨⟨hx, hb, hml, hown, hts⟩, hr, hlocks, hmn⟩ := id F
      refine lv_iload_n hx hb d_M_input_40 rfl (lv_at hl 3 rfl) ?_
      refine lv_sipush (v := 1024) hx hb d_M_input_41 (by decide) ?_
      refine lv_icmp_ge (tgt := 79) hx hb d_M_input_44 (by decide) (fun _ => ?_) (fun c9 => absurd hc1 c9)
      exact w9 p e s m args below meth c A H locs ls F hw (lv_sub hl [] rfl)
    · have k := k.2 hc1
      obtain ⟨z_20, h2, k⟩ := k
      by_cases hc3 : ((x3 >>> (x2 &&& 31)) &&& (1 : Int32)) = 1
      · have k := k.2 hc3
        obtain ⟨rv, v9, hK, hle_u, w9⟩ := t_M_input_J72 l Z u0 x0 x1 x2 x3 z_20 (((1024 : Int32) * x1) + x3) (1 : Int32) u ih hE79 k
        refine ⟨rv, v9, hK, hle_u, ?_⟩
        intro p e s m args below meth c A H locs ls F hw hl
        obtain ⟨⟨hx, hb, hml, hown, hts⟩, hr, hlocks, hmn⟩ := id F
        refine lv_iload_n hx hb d_M_input_40 rfl (lv_at hl 3 rfl) ?_
        refine lv_sipush (v := 1024) hx hb d_M_input_41 (by decide) ?_
        refine lv_icmp_ge (tgt := 79) hx hb d_M_input_44 (by decide) (fun c9 => absurd c9 hc1) (fun _ => ?_)
        refine lv_aload_n hx hb d_M_input_47 rfl (lv_at hl 0 rfl) ?_
        refine xr_get hx hb hts (xmu uws_M) hown hw h2 rfl (by decide) (hts _ (xm w_869)) (fun _ h9 => h9) d_M_input_48 ?_
        refine lv_sipush (v := 1024) hx hb d_M_input_51 (by decide) ?_
        refine lv_iload_n hx hb d_M_input_54 rfl (lv_at hl 1 rfl) ?_
        refine lv_imul hx hb d_M_input_55 ?_
        refine lv_iload_n hx hb d_M_input_56 rfl (lv_at hl 3 rfl) ?_
        refine lv_iadd hx hb d_M_input_57 ?_
        refine lv_iload_n hx hb d_M_input_58 rfl (lv_at hl 3 rfl) ?_
        refine lv_iload_n hx hb d_M_input_59 rfl (lv_at hl 2 rfl) ?_
        refine lv_ishr hx hb d_M_input_60 ?_
        refine lv_iconst (v := 1) hx hb d_M_input_61 (by decide) ?_
        refine lv_iand hx hb d_M_input_62 ?_
        refine lv_iconst (v := 1) hx hb d_M_input_63 (by decide) ?_
        refine lv_icmp_ne (tgt := 71) hx hb d_M_input_64 (by decide) (fun c9 => absurd hc3 c9) (fun _ => ?_)
        refine lv_iconst (v := 1) hx hb d_M_input_67 (by decide) ?_
        refine lv_goto (tgt := 72) hx hb d_M_input_68 (by decide) ?_
        exact w9 p e s m args below meth c A H locs ls F hw (lv_sub hl [0, 1, 2, 3] rfl)
      · have k := k.1 hc3
        obtain ⟨rv, v9, hK, hle_u, w9⟩ := t_M_input_J72 l Z u0 x0 x1 x2 x3 z_20 (((1024 : Int32) * x1) + x3) (0 : Int32) u ih hE79 k
        refine ⟨rv, v9, hK, hle_u, ?_⟩
        intro p e s m args below meth c A H locs ls F hw hl
        obtain ⟨⟨hx, hb, hml, hown, hts⟩, hr, hlocks, hmn⟩ := id F
        refine lv_iload_n hx hb d_M_input_40 rfl (lv_at hl 3 rfl) ?_
        refine lv_sipush (v := 1024) hx hb d_M_input_41 (by decide) ?_
        refine lv_icmp_ge (tgt := 79) hx hb d_M_input_44 (by decide) (fun c9 => absurd c9 hc1) (fun _ => ?_)
        refine lv_aload_n hx hb d_M_input_47 rfl (lv_at hl 0 rfl) ?_
        refine xr_get hx hb hts (xmu uws_M) hown hw h2 rfl (by decide) (hts _ (xm w_869)) (fun _ h9 => h9) d_M_input_48 ?_
        refine lv_sipush (v := 1024) hx hb d_M_input_51 (by decide) ?_
        refine lv_iload_n hx hb d_M_input_54 rfl (lv_at hl 1 rfl) ?_
        refine lv_imul hx hb d_M_input_55 ?_
        refine lv_iload_n hx hb d_M_input_56 rfl (lv_at hl 3 rfl) ?_
        refine lv_iadd hx hb d_M_input_57 ?_
        refine lv_iload_n hx hb d_M_input_58 rfl (lv_at hl 3 rfl) ?_
        refine lv_iload_n hx hb d_M_input_59 rfl (lv_at hl 2 rfl) ?_
        refine lv_ishr hx hb d_M_input_60 ?_
        refine lv_iconst (v := 1) hx hb d_M_input_61 (by decide) ?_
        refine lv_iand hx hb d_M_input_62 ?_
        refine lv_iconst (v := 1) hx hb d_M_input_63 (by decide) ?_
        refine lv_icmp_ne (tgt := 71) hx hb d_M_input_64 (by decide) (fun _ => ?_) (fun c9 => absurd c9 hc3)
        refine lv_iconst (v := 0) hx hb d_M_input_71 (by decide) ?_
        exact w9 p e s m args below meth c A H locs ls F hw (lv_sub hl [0, 1, 2, 3] rfl)
set_option maxRecDepth 100000 in
set_option maxHeartbeats 4000000 in
theorem t_M_input_J32 (l : Launch) (Z : XZ) (u0 : PS) {K : PS → Prop} (x0 : Nat) (x1 : Int32) (x2 : Int32) (s0 : Nat) (s1 : Int32) (s2 : Int32) (u : PS) (k : (p_M_input_J32 K x0 x1 x2 s0 s1 s2 u)) : XN l Z i_M_input u0 (kV K) u 32 [(0, .ref x0), (1, .int x1), (2, .int x2)] [.int s2, .int s1, .ref s0] := by
  unfold p_M_input_J32 at k
  obtain ⟨h2, k⟩ := k
  obtain ⟨_, u_18, ⟨r_19, rfl, k⟩, hM1⟩ := c_M_refuse l Z s0 s1 s2 u _ k
  by_cases hc3 : r_19 = 0
  · have k := k.2 hc3
    obtain ⟨n4, k⟩ := k
    have hx6 : ∀ (v5 : PS), (K v5) → XN l Z i_M_input u0 (kV K) v5 79 [] [] := by
      intro v5 k
      have hle_v5 : x_le v5 v5 := x_le.rf v5
      refine ⟨none, v5, ⟨rfl, k⟩, hle_v5, ?_⟩
      intro p e s m args below meth c A H locs ls F hw hl
      obtain ⟨⟨hx, hb, hml, hown, hts⟩, hr, hlocks, hmn⟩ := id F
      exact xr_vret F rfl hw d_M_input_79
    obtain ⟨rv, v9, hK, hle_u_18, w9⟩ := t_M_input_L40 l Z u0 x0 x1 x2 hx6 n4 (0 : Int32) u_18 k
    have hle_u : x_le u v9 := (hM1.1).tr hle_u_18
    refine ⟨rv, v9, hK, hle_u, ?_⟩
    intro p e s m args below meth c A H locs ls F hw hl
    obtain ⟨⟨hx, hb, hml, hown, hts⟩, hr, hlocks, hmn⟩ := id F
    refine xr_cV (As := [.int s1, .int s2]) (rest := []) ⟨hx, hb, hml, hown, hts⟩ hw hM1 hle_u_18 (fun _ _ => ⟨callB_of 2 hts (xgood w_929) rfl rfl rfl (hts _ (xm w_8)) (hts _ (xm w_926)) ⟨by decide, by decide, by decide +kernel⟩ ⟨Nat.le_of_ble_eq_true rfl, Nat.le_of_ble_eq_true rfl⟩, (hts _ (xm w_928)), (hts _ (xm wp_38))⟩) (qc := (R_M, F_M, 14)) rfl rfl h2 rfl hl.1 rfl (Nat.le_of_ble_eq_true rfl) d_M_input_32 (fun H locs hw => ?_)
    refine W.eq (g2 := F0 m 35 ls [.int r_19]) rfl ?_
    refine lv_if_ne (tgt := 79) hx hb d_M_input_35 (by decide) (fun c9 => absurd hc3 c9) (fun _ => ?_)
    refine lv_iconst (v := 0) hx hb d_M_input_38 (by decide) ?_
    refine lv_istore_n (lv' := [(3, .int 0), (0, .ref x0), (1, .int x1), (2, .int x2)]) hx hb d_M_input_39 rfl hl (by decide) rfl (fun ls hl => ?_)
    exact w9 p e s m args below meth c A H locs ls F hw (lv_sub hl [1, 2, 3, 0] rfl)
  · have k := k.1 hc3
    have hle_u_18 : x_le u_18 u_18 := x_le.rf u_18
    have hle_u : x_le u u_18 := (hM1.1).tr hle_u_18
    refine ⟨none, u_18, ⟨rfl, k⟩, hle_u, ?_⟩
    intro p e s m args below meth c A H locs ls F hw hl
    obtain ⟨⟨hx, hb, hml, hown, hts⟩, hr, hlocks, hmn⟩ := id F
    refine xr_cV (As := [.int s1, .int s2]) (rest := []) ⟨hx, hb, hml, hown, hts⟩ hw hM1 hle_u_18 (fun _ _ => ⟨callB_of 2 hts (xgood w_929) rfl rfl rfl (hts _ (xm w_8)) (hts _ (xm w_926)) ⟨by decide, by decide, by decide +kernel⟩ ⟨Nat.le_of_ble_eq_true rfl, Nat.le_of_ble_eq_true rfl⟩, (hts _ (xm w_928)), (hts _ (xm wp_38))⟩) (qc := (R_M, F_M, 14)) rfl rfl h2 rfl hl.1 rfl (Nat.le_of_ble_eq_true rfl) d_M_input_32 (fun H locs hw => ?_)
    refine W.eq (g2 := F0 m 35 ls [.int r_19]) rfl ?_
    refine lv_if_ne (tgt := 79) hx hb d_M_input_35 (by decide) (fun _ => ?_) (fun c9 => absurd c9 hc3)
    exact xr_vret F rfl hw d_M_input_79
set_option maxRecDepth 100000 in
set_option maxHeartbeats 4000000 in
theorem t_M_input_J31 (l : Launch) (Z : XZ) (u0 : PS) {K : PS → Prop} (x0 : Nat) (x1 : Int32) (x2 : Int32) (s0 : Nat) (s1 : Int32) (u : PS) (k : (p_M_input_J31 K x0 x1 x2 s0 s1 u)) : XN l Z i_M_input u0 (kV K) u 31 [(0, .ref x0), (1, .int x1), (2, .int x2)] [.int s1, .ref s0] := by
  unfold p_M_input_J31 at k
  obtain ⟨rv, v9, hK, hle_u, w9⟩ := t_M_input_J32 l Z u0 x0 x1 x2 s0 s1 (0 : Int32) u k
  refine ⟨rv, v9, hK, hle_u, ?_⟩
  intro p e s m args below meth c A H locs ls F hw hl
  obtain ⟨⟨hx, hb, hml, hown, hts⟩, hr, hlocks, hmn⟩ := id F
  refine lv_iconst (v := 0) hx hb d_M_input_31 (by decide) ?_
  exact w9 p e s m args below meth c A H locs ls F hw (lv_sub hl [0, 1, 2] rfl)
set_option maxRecDepth 100000 in
set_option maxHeartbeats 4000000 in
theorem t_M_input_J13 (l : Launch) (Z : XZ) (u0 : PS) {K : PS → Prop} (x0 : Nat) (x1 : Int32) (x2 : Int32) (s0 : Nat) (s1 : Int32) (u : PS) (k : (p_M_input_J13 K x0 x1 x2 s0 s1 u)) : XN l Z i_M_input u0 (kV K) u 13 [(0, .ref x0), (1, .int x1), (2, .int x2)] [.int s1, .ref s0] := by
  unfold p_M_input_J13 at k
  obtain ⟨_, u_16, ⟨r_17, rfl, k⟩, hM1⟩ := c_M_isPlace l Z x1 u _ k
  by_cases hc2 : r_17 = 0
  · have k := k.1 hc2
    obtain ⟨rv, v9, hK, hle_u_16, w9⟩ := t_M_input_J31 l Z u0 x0 x1 x2 s0 s1 u_16 k
    have hle_u : x_le u v9 := (hM1.1).tr hle_u_16
    refine ⟨rv, v9, hK, hle_u, ?_⟩
    intro p e s m args below meth c A H locs ls F hw hl
    obtain ⟨⟨hx, hb, hml, hown, hts⟩, hr, hlocks, hmn⟩ := id F
    refine lv_iload_n hx hb d_M_input_13 rfl (lv_at hl 1 rfl) ?_
    refine xr_cS (As := [.int x1]) (rest := [.int s1, .ref s0]) ⟨hx, hb, hml, hown, hts⟩ hw hM1 hle_u_16 (fun _ _ => ⟨callB_of 1 hts (xgood w_922) rfl rfl rfl (hts _ (xm w_8)) (hts _ (xm w_920)) ⟨by decide, by decide, by decide +kernel⟩ ⟨Nat.le_of_ble_eq_true rfl, Nat.le_of_ble_eq_true rfl⟩, (hts _ (xm w_921))⟩) rfl hl.1 rfl (Nat.le_of_ble_eq_true rfl) d_M_input_14 (fun H locs hw => ?_)
    refine W.eq (g2 := F0 m 17 ls [.int r_17, .int s1, .ref s0]) rfl ?_
    refine lv_if_eq (tgt := 31) hx hb d_M_input_17 (by decide) (fun _ => ?_) (fun c9 => absurd hc2 c9)
    exact w9 p e s m args below meth c A H locs ls F hw (lv_sub hl [0, 1, 2] rfl)
  · have k := k.2 hc2
    obtain ⟨_, u_22, ⟨r_23, rfl, k⟩, hM3⟩ := c_M_isInput l Z x2 u_16 _ k
    by_cases hc4 : r_23 = 0
    · have k := k.2 hc4
      obtain ⟨rv, v9, hK, hle_u_22, w9⟩ := t_M_input_J32 l Z u0 x0 x1 x2 s0 s1 (1 : Int32) u_22 k
      have hle_u_16 : x_le u_16 v9 := (hM3.1).tr hle_u_22
      have hle_u : x_le u v9 := (hM1.1).tr hle_u_16
      refine ⟨rv, v9, hK, hle_u, ?_⟩
      intro p e s m args below meth c A H locs ls F hw hl
      obtain ⟨⟨hx, hb, hml, hown, hts⟩, hr, hlocks, hmn⟩ := id F
      refine lv_iload_n hx hb d_M_input_13 rfl (lv_at hl 1 rfl) ?_
      refine xr_cS (As := [.int x1]) (rest := [.int s1, .ref s0]) ⟨hx, hb, hml, hown, hts⟩ hw hM1 hle_u_16 (fun _ _ => ⟨callB_of 1 hts (xgood w_922) rfl rfl rfl (hts _ (xm w_8)) (hts _ (xm w_920)) ⟨by decide, by decide, by decide +kernel⟩ ⟨Nat.le_of_ble_eq_true rfl, Nat.le_of_ble_eq_true rfl⟩, (hts _ (xm w_921))⟩) rfl hl.1 rfl (Nat.le_of_ble_eq_true rfl) d_M_input_14 (fun H locs hw => ?_)
      refine W.eq (g2 := F0 m 17 ls [.int r_17, .int s1, .ref s0]) rfl ?_
      refine lv_if_eq (tgt := 31) hx hb d_M_input_17 (by decide) (fun c9 => absurd c9 hc2) (fun _ => ?_)
      refine lv_iload_n hx hb d_M_input_20 rfl (lv_at hl 2 rfl) ?_
      refine xr_cS (As := [.int x2]) (rest := [.int s1, .ref s0]) ⟨hx, hb, hml, hown, hts⟩ hw hM3 hle_u_22 (fun _ _ => ⟨callB_of 1 hts (xgood w_936) rfl rfl rfl (hts _ (xm w_8)) (hts _ (xm w_934)) ⟨by decide, by decide, by decide +kernel⟩ ⟨Nat.le_of_ble_eq_true rfl, Nat.le_of_ble_eq_true rfl⟩, (hts _ (xm w_935))⟩) rfl hl.1 rfl (Nat.le_of_ble_eq_true rfl) d_M_input_21 (fun H locs hw => ?_)
      refine W.eq (g2 := F0 m 24 ls [.int r_23, .int s1, .ref s0]) rfl ?_
      refine lv_if_ne (tgt := 31) hx hb d_M_input_24 (by decide) (fun c9 => absurd hc4 c9) (fun _ => ?_)
      refine lv_iconst (v := 1) hx hb d_M_input_27 (by decide) ?_
      refine lv_goto (tgt := 32) hx hb d_M_input_28 (by decide) ?_
      exact w9 p e s m args below meth c A H locs ls F hw (lv_sub hl [0, 1, 2] rfl)
    · have k := k.1 hc4
      obtain ⟨rv, v9, hK, hle_u_22, w9⟩ := t_M_input_J31 l Z u0 x0 x1 x2 s0 s1 u_22 k
      have hle_u_16 : x_le u_16 v9 := (hM3.1).tr hle_u_22
      have hle_u : x_le u v9 := (hM1.1).tr hle_u_16
      refine ⟨rv, v9, hK, hle_u, ?_⟩
      intro p e s m args below meth c A H locs ls F hw hl
      obtain ⟨⟨hx, hb, hml, hown, hts⟩, hr, hlocks, hmn⟩ := id F
      refine lv_iload_n hx hb d_M_input_13 rfl (lv_at hl 1 rfl) ?_
      refine xr_cS (As := [.int x1]) (rest := [.int s1, .ref s0]) ⟨hx, hb, hml, hown, hts⟩ hw hM1 hle_u_16 (fun _ _ => ⟨callB_of 1 hts (xgood w_922) rfl rfl rfl (hts _ (xm w_8)) (hts _ (xm w_920)) ⟨by decide, by decide, by decide +kernel⟩ ⟨Nat.le_of_ble_eq_true rfl, Nat.le_of_ble_eq_true rfl⟩, (hts _ (xm w_921))⟩) rfl hl.1 rfl (Nat.le_of_ble_eq_true rfl) d_M_input_14 (fun H locs hw => ?_)
      refine W.eq (g2 := F0 m 17 ls [.int r_17, .int s1, .ref s0]) rfl ?_
      refine lv_if_eq (tgt := 31) hx hb d_M_input_17 (by decide) (fun c9 => absurd c9 hc2) (fun _ => ?_)
      refine lv_iload_n hx hb d_M_input_20 rfl (lv_at hl 2 rfl) ?_
      refine xr_cS (As := [.int x2]) (rest := [.int s1, .ref s0]) ⟨hx, hb, hml, hown, hts⟩ hw hM3 hle_u_22 (fun _ _ => ⟨callB_of 1 hts (xgood w_936) rfl rfl rfl (hts _ (xm w_8)) (hts _ (xm w_934)) ⟨by decide, by decide, by decide +kernel⟩ ⟨Nat.le_of_ble_eq_true rfl, Nat.le_of_ble_eq_true rfl⟩, (hts _ (xm w_935))⟩) rfl hl.1 rfl (Nat.le_of_ble_eq_true rfl) d_M_input_21 (fun H locs hw => ?_)
      refine W.eq (g2 := F0 m 24 ls [.int r_23, .int s1, .ref s0]) rfl ?_
      refine lv_if_ne (tgt := 31) hx hb d_M_input_24 (by decide) (fun _ => ?_) (fun c9 => absurd c9 hc4)
      exact w9 p e s m args below meth c A H locs ls F hw (lv_sub hl [0, 1, 2] rfl)
set_option maxRecDepth 100000 in
set_option maxHeartbeats 4000000 in
theorem c_M_input (l : Launch) (Z : XZ) (x0 : Nat) (x1 : Int32) (x2 : Int32) (u : PS) (K : PS → Prop) (k : p_M_input x0 x1 x2 u K) : ∃ (rv : Option Value) (u1 : PS), (kV K) rv u1 ∧ XMet l Z i_M_input [.ref x0, .int x1, .int x2] u rv u1 := by
  refine x_met (by decide) rfl (Nat.le_of_ble_eq_true rfl) ?_
  show XN l Z i_M_input u (kV K) u 0 [(0, .ref x0), (1, .int x1), (2, .int x2)] []
  unfold p_M_input at k
  obtain ⟨_, u_14, ⟨r_15, rfl, k⟩, hM1⟩ := c_M_isPlace l Z x1 u _ k
  by_cases hc2 : r_15 = 0
  · have k := k.2 hc2
    obtain ⟨rv, v9, hK, hle_u_14, w9⟩ := t_M_input_J13 l Z u x0 x1 x2 x0 (1 : Int32) u_14 k
    have hle_u : x_le u v9 := (hM1.1).tr hle_u_14
    refine ⟨rv, v9, hK, hle_u, ?_⟩
    intro p e s m args below meth c A H locs ls F hw hl
    obtain ⟨⟨hx, hb, hml, hown, hts⟩, hr, hlocks, hmn⟩ := id F
    refine lv_aload_n hx hb d_M_input_0 rfl (lv_at hl 0 rfl) ?_
    refine lv_iload_n hx hb d_M_input_1 rfl (lv_at hl 1 rfl) ?_
    refine xr_cS (As := [.int x1]) (rest := [.ref x0]) ⟨hx, hb, hml, hown, hts⟩ hw hM1 hle_u_14 (fun _ _ => ⟨callB_of 1 hts (xgood w_922) rfl rfl rfl (hts _ (xm w_8)) (hts _ (xm w_920)) ⟨by decide, by decide, by decide +kernel⟩ ⟨Nat.le_of_ble_eq_true rfl, Nat.le_of_ble_eq_true rfl⟩, (hts _ (xm w_921))⟩) rfl hl.1 rfl (Nat.le_of_ble_eq_true rfl) d_M_input_2 (fun H locs hw => ?_)
    refine W.eq (g2 := F0 m 5 ls [.int r_15, .ref x0]) rfl ?_
    refine lv_if_ne (tgt := 12) hx hb d_M_input_5 (by decide) (fun c9 => absurd hc2 c9) (fun _ => ?_)
    refine lv_iconst (v := 1) hx hb d_M_input_8 (by decide) ?_
    refine lv_goto (tgt := 13) hx hb d_M_input_9 (by decide) ?_
    exact w9 p e s m args below meth c A H locs ls F hw (lv_sub hl [0, 1, 2] rfl)
  · have k := k.1 hc2
    obtain ⟨rv, v9, hK, hle_u_14, w9⟩ := t_M_input_J13 l Z u x0 x1 x2 x0 (0 : Int32) u_14 k
    have hle_u : x_le u v9 := (hM1.1).tr hle_u_14
    refine ⟨rv, v9, hK, hle_u, ?_⟩
    intro p e s m args below meth c A H locs ls F hw hl
    obtain ⟨⟨hx, hb, hml, hown, hts⟩, hr, hlocks, hmn⟩ := id F
    refine lv_aload_n hx hb d_M_input_0 rfl (lv_at hl 0 rfl) ?_
    refine lv_iload_n hx hb d_M_input_1 rfl (lv_at hl 1 rfl) ?_
    refine xr_cS (As := [.int x1]) (rest := [.ref x0]) ⟨hx, hb, hml, hown, hts⟩ hw hM1 hle_u_14 (fun _ _ => ⟨callB_of 1 hts (xgood w_922) rfl rfl rfl (hts _ (xm w_8)) (hts _ (xm w_920)) ⟨by decide, by decide, by decide +kernel⟩ ⟨Nat.le_of_ble_eq_true rfl, Nat.le_of_ble_eq_true rfl⟩, (hts _ (xm w_921))⟩) rfl hl.1 rfl (Nat.le_of_ble_eq_true rfl) d_M_input_2 (fun H locs hw => ?_)
    refine W.eq (g2 := F0 m 5 ls [.int r_15, .ref x0]) rfl ?_
    refine lv_if_ne (tgt := 12) hx hb d_M_input_5 (by decide) (fun _ => ?_) (fun c9 => absurd c9 hc2)
    refine lv_iconst (v := 0) hx hb d_M_input_12 (by decide) ?_
    exact w9 p e s m args below meth c A H locs ls F hw (lv_sub hl [0, 1, 2] rfl)
set_option maxRecDepth 100000 in
set_option maxHeartbeats 4000000 in
theorem t_M_two_J58 (l : Launch) (Z : XZ) (u0 : PS) {K : Int32 → PS → Prop} (u : PS) (k : (p_M_two_J58 K u)) : XN l Z i_M_two u0 (kI K) u 58 [] [] := by
  unfold p_M_two_J58 at k
  obtain ⟨hz9, k⟩ := k
  have hle_u : x_le u u := x_le.rf u
  refine ⟨some (.int 1), u, ⟨(1 : Int32), rfl, k⟩, hle_u, ?_⟩
  intro p e s m args below meth c A H locs ls F hw hl
  obtain ⟨⟨hx, hb, hml, hown, hts⟩, hr, hlocks, hmn⟩ := id F
  refine lv_iconst (v := 1) hx hb d_M_two_58 (by decide) ?_
  refine lv_goto (tgt := 63) hx hb d_M_two_59 (by decide) ?_
  exact xr_zret F rfl hz9 hw d_M_two_63
set_option maxRecDepth 100000 in
set_option maxHeartbeats 4000000 in
theorem t_M_two_J83 (l : Launch) (Z : XZ) (u0 : PS) {K : Int32 → PS → Prop} (u : PS) (k : (p_M_two_J83 K u)) : XN l Z i_M_two u0 (kI K) u 83 [] [] := by
  unfold p_M_two_J83 at k
  obtain ⟨hz9, k⟩ := k
  have hle_u : x_le u u := x_le.rf u
  refine ⟨some (.int 1), u, ⟨(1 : Int32), rfl, k⟩, hle_u, ?_⟩
  intro p e s m args below meth c A H locs ls F hw hl
  obtain ⟨⟨hx, hb, hml, hown, hts⟩, hr, hlocks, hmn⟩ := id F
  refine lv_iconst (v := 1) hx hb d_M_two_83 (by decide) ?_
  refine lv_goto (tgt := 88) hx hb d_M_two_84 (by decide) ?_
  exact xr_zret F rfl hz9 hw d_M_two_88
set_option maxRecDepth 100000 in
set_option maxHeartbeats 4000000 in
theorem c_M_two (l : Launch) (Z : XZ) (x0 : Int32) (x1 : Int32) (x2 : Int32) (u : PS) (K : Int32 → PS → Prop) (k : p_M_two x0 x1 x2 u K) : ∃ (rv : Option Value) (u1 : PS), (kI K) rv u1 ∧ XMet l Z i_M_two [.int x0, .int x1, .int x2] u rv u1 := by
  refine x_met (by decide) rfl (Nat.le_of_ble_eq_true rfl) ?_
  show XN l Z i_M_two u (kI K) u 0 [(0, .int x0), (1, .int x1), (2, .int x2)] []
  unfold p_M_two at k
  by_cases hc1 : x0 = 0
  · have k := k.1 hc1
    by_cases hc6 : x1 = 0
    · have k := k.1 hc6
      obtain ⟨hz9, k⟩ := k
      have hle_u : x_le u u := x_le.rf u
      refine ⟨some (.int 0), u, ⟨(0 : Int32), rfl, k⟩, hle_u, ?_⟩
      intro p e s m args below meth c A H locs ls F hw hl
      obtain ⟨⟨hx, hb, hml, hown, hts⟩, hr, hlocks, hmn⟩ := id F
      refine lv_iload_n hx hb d_M_two_0 rfl (lv_at hl 0 rfl) ?_
      refine lv_tableIn (off := 35) (tgt := 36) hx hb d_M_two_1 (by rw [hc1]; decide) (by rw [hc1]; decide) (by rw [hc1]; rfl) (by decide) ?_
      refine lv_iload_n hx hb d_M_two_36 rfl (lv_at hl 1 rfl) ?_
      refine lv_if_eq (tgt := 48) hx hb d_M_two_37 (by decide) (fun _ => ?_) (fun c9 => absurd hc6 c9)
      refine lv_iconst (v := 0) hx hb d_M_two_48 (by decide) ?_
      exact xr_zret F rfl hz9 hw d_M_two_49
    · have k := k.2 hc6
      by_cases hc7 : x2 = 0
      · have k := k.1 hc7
        obtain ⟨hz9, k⟩ := k
        have hle_u : x_le u u := x_le.rf u
        refine ⟨some (.int 0), u, ⟨(0 : Int32), rfl, k⟩, hle_u, ?_⟩
        intro p e s m args below meth c A H locs ls F hw hl
        obtain ⟨⟨hx, hb, hml, hown, hts⟩, hr, hlocks, hmn⟩ := id F
        refine lv_iload_n hx hb d_M_two_0 rfl (lv_at hl 0 rfl) ?_
        refine lv_tableIn (off := 35) (tgt := 36) hx hb d_M_two_1 (by rw [hc1]; decide) (by rw [hc1]; decide) (by rw [hc1]; rfl) (by decide) ?_
        refine lv_iload_n hx hb d_M_two_36 rfl (lv_at hl 1 rfl) ?_
        refine lv_if_eq (tgt := 48) hx hb d_M_two_37 (by decide) (fun c9 => absurd c9 hc6) (fun _ => ?_)
        refine lv_iload_n hx hb d_M_two_40 rfl (lv_at hl 2 rfl) ?_
        refine lv_if_eq (tgt := 48) hx hb d_M_two_41 (by decide) (fun _ => ?_) (fun c9 => absurd hc7 c9)
        refine lv_iconst (v := 0) hx hb d_M_two_48 (by decide) ?_
        exact xr_zret F rfl hz9 hw d_M_two_49
      · have k := k.2 hc7
        obtain ⟨hz9, k⟩ := k
        have hle_u : x_le u u := x_le.rf u
        refine ⟨some (.int 1), u, ⟨(1 : Int32), rfl, k⟩, hle_u, ?_⟩
        intro p e s m args below meth c A H locs ls F hw hl
        obtain ⟨⟨hx, hb, hml, hown, hts⟩, hr, hlocks, hmn⟩ := id F
        refine lv_iload_n hx hb d_M_two_0 rfl (lv_at hl 0 rfl) ?_
        refine lv_tableIn (off := 35) (tgt := 36) hx hb d_M_two_1 (by rw [hc1]; decide) (by rw [hc1]; decide) (by rw [hc1]; rfl) (by decide) ?_
        refine lv_iload_n hx hb d_M_two_36 rfl (lv_at hl 1 rfl) ?_
        refine lv_if_eq (tgt := 48) hx hb d_M_two_37 (by decide) (fun c9 => absurd c9 hc6) (fun _ => ?_)
        refine lv_iload_n hx hb d_M_two_40 rfl (lv_at hl 2 rfl) ?_
        refine lv_if_eq (tgt := 48) hx hb d_M_two_41 (by decide) (fun c9 => absurd c9 hc7) (fun _ => ?_)
        refine lv_iconst (v := 1) hx hb d_M_two_44 (by decide) ?_
        refine lv_goto (tgt := 49) hx hb d_M_two_45 (by decide) ?_
        exact xr_zret F rfl hz9 hw d_M_two_49
  by_cases hc2 : x0 = 1
  · have k := k.2.1 hc2
    by_cases hc8 : x1 = 0
    · have k := k.2 hc8
      by_cases hc9 : x2 = 0
      · have k := k.1 hc9
        obtain ⟨hz9, k⟩ := k
        have hle_u : x_le u u := x_le.rf u
        refine ⟨some (.int 0), u, ⟨(0 : Int32), rfl, k⟩, hle_u, ?_⟩
        intro p e s m args below meth c A H locs ls F hw hl
        obtain ⟨⟨hx, hb, hml, hown, hts⟩, hr, hlocks, hmn⟩ := id F
        refine lv_iload_n hx hb d_M_two_0 rfl (lv_at hl 0 rfl) ?_
        refine lv_tableIn (off := 49) (tgt := 50) hx hb d_M_two_1 (by rw [hc2]; decide) (by rw [hc2]; decide) (by rw [hc2]; rfl) (by decide) ?_
        refine lv_iload_n hx hb d_M_two_50 rfl (lv_at hl 1 rfl) ?_
        refine lv_if_ne (tgt := 58) hx hb d_M_two_51 (by decide) (fun c9 => absurd hc8 c9) (fun _ => ?_)
        refine lv_iload_n hx hb d_M_two_54 rfl (lv_at hl 2 rfl) ?_
        refine lv_if_eq (tgt := 62) hx hb d_M_two_55 (by decide) (fun _ => ?_) (fun c9 => absurd hc9 c9)
        refine lv_iconst (v := 0) hx hb d_M_two_62 (by decide) ?_
        exact xr_zret F rfl hz9 hw d_M_two_63
      · have k := k.2 hc9
        obtain ⟨rv, v9, hK, hle_u, w9⟩ := t_M_two_J58 l Z u u k
        refine ⟨rv, v9, hK, hle_u, ?_⟩
        intro p e s m args below meth c A H locs ls F hw hl
        obtain ⟨⟨hx, hb, hml, hown, hts⟩, hr, hlocks, hmn⟩ := id F
        refine lv_iload_n hx hb d_M_two_0 rfl (lv_at hl 0 rfl) ?_
        refine lv_tableIn (off := 49) (tgt := 50) hx hb d_M_two_1 (by rw [hc2]; decide) (by rw [hc2]; decide) (by rw [hc2]; rfl) (by decide) ?_
        refine lv_iload_n hx hb d_M_two_50 rfl (lv_at hl 1 rfl) ?_
        refine lv_if_ne (tgt := 58) hx hb d_M_two_51 (by decide) (fun c9 => absurd hc8 c9) (fun _ => ?_)
        refine lv_iload_n hx hb d_M_two_54 rfl (lv_at hl 2 rfl) ?_
        refine lv_if_eq (tgt := 62) hx hb d_M_two_55 (by decide) (fun c9 => absurd c9 hc9) (fun _ => ?_)
        exact w9 p e s m args below meth c A H locs ls F hw (lv_sub hl [] rfl)
    · have k := k.1 hc8
      obtain ⟨rv, v9, hK, hle_u, w9⟩ := t_M_two_J58 l Z u u k
      refine ⟨rv, v9, hK, hle_u, ?_⟩
      intro p e s m args below meth c A H locs ls F hw hl
      obtain ⟨⟨hx, hb, hml, hown, hts⟩, hr, hlocks, hmn⟩ := id F
      refine lv_iload_n hx hb d_M_two_0 rfl (lv_at hl 0 rfl) ?_
      refine lv_tableIn (off := 49) (tgt := 50) hx hb d_M_two_1 (by rw [hc2]; decide) (by rw [hc2]; decide) (by rw [hc2]; rfl) (by decide) ?_
      refine lv_iload_n hx hb d_M_two_50 rfl (lv_at hl 1 rfl) ?_
      refine lv_if_ne (tgt := 58) hx hb d_M_two_51 (by decide) (fun _ => ?_) (fun c9 => absurd c9 hc8)
      exact w9 p e s m args below meth c A H locs ls F hw (lv_sub hl [] rfl)
  by_cases hc3 : x0 = 2
  · have k := k.2.2.1 hc3
    by_cases hc10 : x1 = x2
    · have k := k.1 hc10
      obtain ⟨hz9, k⟩ := k
      have hle_u : x_le u u := x_le.rf u
      refine ⟨some (.int 0), u, ⟨(0 : Int32), rfl, k⟩, hle_u, ?_⟩
      intro p e s m args below meth c A H locs ls F hw hl
      obtain ⟨⟨hx, hb, hml, hown, hts⟩, hr, hlocks, hmn⟩ := id F
      refine lv_iload_n hx hb d_M_two_0 rfl (lv_at hl 0 rfl) ?_
      refine lv_tableIn (off := 63) (tgt := 64) hx hb d_M_two_1 (by rw [hc3]; decide) (by rw [hc3]; decide) (by rw [hc3]; rfl) (by decide) ?_
      refine lv_iload_n hx hb d_M_two_64 rfl (lv_at hl 1 rfl) ?_
      refine lv_iload_n hx hb d_M_two_65 rfl (lv_at hl 2 rfl) ?_
      refine lv_icmp_eq (tgt := 73) hx hb d_M_two_66 (by decide) (fun _ => ?_) (fun c9 => absurd hc10 c9)
      refine lv_iconst (v := 0) hx hb d_M_two_73 (by decide) ?_
      exact xr_zret F rfl hz9 hw d_M_two_74
    · have k := k.2 hc10
      obtain ⟨hz9, k⟩ := k
      have hle_u : x_le u u := x_le.rf u
      refine ⟨some (.int 1), u, ⟨(1 : Int32), rfl, k⟩, hle_u, ?_⟩
      intro p e s m args below meth c A H locs ls F hw hl
      obtain ⟨⟨hx, hb, hml, hown, hts⟩, hr, hlocks, hmn⟩ := id F
      refine lv_iload_n hx hb d_M_two_0 rfl (lv_at hl 0 rfl) ?_
      refine lv_tableIn (off := 63) (tgt := 64) hx hb d_M_two_1 (by rw [hc3]; decide) (by rw [hc3]; decide) (by rw [hc3]; rfl) (by decide) ?_
      refine lv_iload_n hx hb d_M_two_64 rfl (lv_at hl 1 rfl) ?_
      refine lv_iload_n hx hb d_M_two_65 rfl (lv_at hl 2 rfl) ?_
      refine lv_icmp_eq (tgt := 73) hx hb d_M_two_66 (by decide) (fun c9 => absurd c9 hc10) (fun _ => ?_)
      refine lv_iconst (v := 1) hx hb d_M_two_69 (by decide) ?_
      refine lv_goto (tgt := 74) hx hb d_M_two_70 (by decide) ?_
      exact xr_zret F rfl hz9 hw d_M_two_74
  by_cases hc4 : x0 = 3
  · have k := k.2.2.2.1 hc4
    by_cases hc11 : x1 = 0
    · have k := k.1 hc11
      obtain ⟨rv, v9, hK, hle_u, w9⟩ := t_M_two_J83 l Z u u k
      refine ⟨rv, v9, hK, hle_u, ?_⟩
      intro p e s m args below meth c A H locs ls F hw hl
      obtain ⟨⟨hx, hb, hml, hown, hts⟩, hr, hlocks, hmn⟩ := id F
      refine lv_iload_n hx hb d_M_two_0 rfl (lv_at hl 0 rfl) ?_
      refine lv_tableIn (off := 74) (tgt := 75) hx hb d_M_two_1 (by rw [hc4]; decide) (by rw [hc4]; decide) (by rw [hc4]; rfl) (by decide) ?_
      refine lv_iload_n hx hb d_M_two_75 rfl (lv_at hl 1 rfl) ?_
      refine lv_if_eq (tgt := 83) hx hb d_M_two_76 (by decide) (fun _ => ?_) (fun c9 => absurd hc11 c9)
      exact w9 p e s m args below meth c A H locs ls F hw (lv_sub hl [] rfl)
    · have k := k.2 hc11
      by_cases hc12 : x2 = 0
      · have k := k.1 hc12
        obtain ⟨hz9, k⟩ := k
        have hle_u : x_le u u := x_le.rf u
        refine ⟨some (.int 0), u, ⟨(0 : Int32), rfl, k⟩, hle_u, ?_⟩
        intro p e s m args below meth c A H locs ls F hw hl
        obtain ⟨⟨hx, hb, hml, hown, hts⟩, hr, hlocks, hmn⟩ := id F
        refine lv_iload_n hx hb d_M_two_0 rfl (lv_at hl 0 rfl) ?_
        refine lv_tableIn (off := 74) (tgt := 75) hx hb d_M_two_1 (by rw [hc4]; decide) (by rw [hc4]; decide) (by rw [hc4]; rfl) (by decide) ?_
        refine lv_iload_n hx hb d_M_two_75 rfl (lv_at hl 1 rfl) ?_
        refine lv_if_eq (tgt := 83) hx hb d_M_two_76 (by decide) (fun c9 => absurd c9 hc11) (fun _ => ?_)
        refine lv_iload_n hx hb d_M_two_79 rfl (lv_at hl 2 rfl) ?_
        refine lv_if_eq (tgt := 87) hx hb d_M_two_80 (by decide) (fun _ => ?_) (fun c9 => absurd hc12 c9)
        refine lv_iconst (v := 0) hx hb d_M_two_87 (by decide) ?_
        exact xr_zret F rfl hz9 hw d_M_two_88
      · have k := k.2 hc12
        obtain ⟨rv, v9, hK, hle_u, w9⟩ := t_M_two_J83 l Z u u k
        refine ⟨rv, v9, hK, hle_u, ?_⟩
        intro p e s m args below meth c A H locs ls F hw hl
        obtain ⟨⟨hx, hb, hml, hown, hts⟩, hr, hlocks, hmn⟩ := id F
        refine lv_iload_n hx hb d_M_two_0 rfl (lv_at hl 0 rfl) ?_
        refine lv_tableIn (off := 74) (tgt := 75) hx hb d_M_two_1 (by rw [hc4]; decide) (by rw [hc4]; decide) (by rw [hc4]; rfl) (by decide) ?_
        refine lv_iload_n hx hb d_M_two_75 rfl (lv_at hl 1 rfl) ?_
        refine lv_if_eq (tgt := 83) hx hb d_M_two_76 (by decide) (fun c9 => absurd c9 hc11) (fun _ => ?_)
        refine lv_iload_n hx hb d_M_two_79 rfl (lv_at hl 2 rfl) ?_
        refine lv_if_eq (tgt := 87) hx hb d_M_two_80 (by decide) (fun c9 => absurd c9 hc12) (fun _ => ?_)
        exact w9 p e s m args below meth c A H locs ls F hw (lv_sub hl [] rfl)
  by_cases hc5 : x0 = 4
  · have k := k.2.2.2.2.1 hc5
    by_cases hc13 : x1 = x2
    · have k := k.2 hc13
      obtain ⟨hz9, k⟩ := k
      have hle_u : x_le u u := x_le.rf u
      refine ⟨some (.int 1), u, ⟨(1 : Int32), rfl, k⟩, hle_u, ?_⟩
      intro p e s m args below meth c A H locs ls F hw hl
      obtain ⟨⟨hx, hb, hml, hown, hts⟩, hr, hlocks, hmn⟩ := id F
      refine lv_iload_n hx hb d_M_two_0 rfl (lv_at hl 0 rfl) ?_
      refine lv_tableIn (off := 88) (tgt := 89) hx hb d_M_two_1 (by rw [hc5]; decide) (by rw [hc5]; decide) (by rw [hc5]; rfl) (by decide) ?_
      refine lv_iload_n hx hb d_M_two_89 rfl (lv_at hl 1 rfl) ?_
      refine lv_iload_n hx hb d_M_two_90 rfl (lv_at hl 2 rfl) ?_
      refine lv_icmp_ne (tgt := 98) hx hb d_M_two_91 (by decide) (fun c9 => absurd hc13 c9) (fun _ => ?_)
      refine lv_iconst (v := 1) hx hb d_M_two_94 (by decide) ?_
      refine lv_goto (tgt := 99) hx hb d_M_two_95 (by decide) ?_
      exact xr_zret F rfl hz9 hw d_M_two_99
    · have k := k.1 hc13
      obtain ⟨hz9, k⟩ := k
      have hle_u : x_le u u := x_le.rf u
      refine ⟨some (.int 0), u, ⟨(0 : Int32), rfl, k⟩, hle_u, ?_⟩
      intro p e s m args below meth c A H locs ls F hw hl
      obtain ⟨⟨hx, hb, hml, hown, hts⟩, hr, hlocks, hmn⟩ := id F
      refine lv_iload_n hx hb d_M_two_0 rfl (lv_at hl 0 rfl) ?_
      refine lv_tableIn (off := 88) (tgt := 89) hx hb d_M_two_1 (by rw [hc5]; decide) (by rw [hc5]; decide) (by rw [hc5]; rfl) (by decide) ?_
      refine lv_iload_n hx hb d_M_two_89 rfl (lv_at hl 1 rfl) ?_
      refine lv_iload_n hx hb d_M_two_90 rfl (lv_at hl 2 rfl) ?_
      refine lv_icmp_ne (tgt := 98) hx hb d_M_two_91 (by decide) (fun _ => ?_) (fun c9 => absurd c9 hc13)
      refine lv_iconst (v := 0) hx hb d_M_two_98 (by decide) ?_
      exact xr_zret F rfl hz9 hw d_M_two_99
  have k := k.2.2.2.2.2 hc1 hc2 hc3 hc4 hc5
  have e14 := lv_neT hc1 (a := 0) (by decide)
  have e15 := lv_neT hc2 (a := 1) (by decide)
  have e16 := lv_neT hc3 (a := 2) (by decide)
  have e17 := lv_neT hc4 (a := 3) (by decide)
  have e18 := lv_neT hc5 (a := 4) (by decide)
  by_cases hc19 : x1 = 0
  · have k := k.1 hc19
    obtain ⟨hz9, k⟩ := k
    have hle_u : x_le u u := x_le.rf u
    refine ⟨some (.int 0), u, ⟨(0 : Int32), rfl, k⟩, hle_u, ?_⟩
    intro p e s m args below meth c A H locs ls F hw hl
    obtain ⟨⟨hx, hb, hml, hown, hts⟩, hr, hlocks, hmn⟩ := id F
    refine lv_iload_n hx hb d_M_two_0 rfl (lv_at hl 0 rfl) ?_
    refine lv_tableOut (tgt := 100) hx hb d_M_two_1 (by omega) (by decide) ?_
    refine lv_iload_n hx hb d_M_two_100 rfl (lv_at hl 1 rfl) ?_
    refine lv_if_eq (tgt := 112) hx hb d_M_two_101 (by decide) (fun _ => ?_) (fun c9 => absurd hc19 c9)
    refine lv_iconst (v := 0) hx hb d_M_two_112 (by decide) ?_
    exact xr_zret F rfl hz9 hw d_M_two_113
  · have k := k.2 hc19
    by_cases hc20 : x2 = 0
    · have k := k.2 hc20
      obtain ⟨hz9, k⟩ := k
      have hle_u : x_le u u := x_le.rf u
      refine ⟨some (.int 1), u, ⟨(1 : Int32), rfl, k⟩, hle_u, ?_⟩
      intro p e s m args below meth c A H locs ls F hw hl
      obtain ⟨⟨hx, hb, hml, hown, hts⟩, hr, hlocks, hmn⟩ := id F
      refine lv_iload_n hx hb d_M_two_0 rfl (lv_at hl 0 rfl) ?_
      refine lv_tableOut (tgt := 100) hx hb d_M_two_1 (by omega) (by decide) ?_
      refine lv_iload_n hx hb d_M_two_100 rfl (lv_at hl 1 rfl) ?_
      refine lv_if_eq (tgt := 112) hx hb d_M_two_101 (by decide) (fun c9 => absurd c9 hc19) (fun _ => ?_)
      refine lv_iload_n hx hb d_M_two_104 rfl (lv_at hl 2 rfl) ?_
      refine lv_if_ne (tgt := 112) hx hb d_M_two_105 (by decide) (fun c9 => absurd hc20 c9) (fun _ => ?_)
      refine lv_iconst (v := 1) hx hb d_M_two_108 (by decide) ?_
      refine lv_goto (tgt := 113) hx hb d_M_two_109 (by decide) ?_
      exact xr_zret F rfl hz9 hw d_M_two_113
    · have k := k.1 hc20
      obtain ⟨hz9, k⟩ := k
      have hle_u : x_le u u := x_le.rf u
      refine ⟨some (.int 0), u, ⟨(0 : Int32), rfl, k⟩, hle_u, ?_⟩
      intro p e s m args below meth c A H locs ls F hw hl
      obtain ⟨⟨hx, hb, hml, hown, hts⟩, hr, hlocks, hmn⟩ := id F
      refine lv_iload_n hx hb d_M_two_0 rfl (lv_at hl 0 rfl) ?_
      refine lv_tableOut (tgt := 100) hx hb d_M_two_1 (by omega) (by decide) ?_
      refine lv_iload_n hx hb d_M_two_100 rfl (lv_at hl 1 rfl) ?_
      refine lv_if_eq (tgt := 112) hx hb d_M_two_101 (by decide) (fun c9 => absurd c9 hc19) (fun _ => ?_)
      refine lv_iload_n hx hb d_M_two_104 rfl (lv_at hl 2 rfl) ?_
      refine lv_if_ne (tgt := 112) hx hb d_M_two_105 (by decide) (fun _ => ?_) (fun c9 => absurd c9 hc20)
      refine lv_iconst (v := 0) hx hb d_M_two_112 (by decide) ?_
      exact xr_zret F rfl hz9 hw d_M_two_113
set_option maxRecDepth 100000 in
set_option maxHeartbeats 4000000 in
theorem t_M_make_L68 (l : Launch) (Z : XZ) (u0 : PS) {Kv : Option Value → PS → Prop} {E108 : PS → Prop} (x0 : Nat) (x1 : Int32) (x2 : Int32) (x3 : Int32) (x4 : Int32) (hE108 : ∀ (v : PS), E108 v → XN l Z i_M_make u0 Kv v 108 [(0, .ref x0), (1, .int x1)] []) : ∀ (n : Nat) (x6 : Int32) (u : PS), p_M_make_L68 x0 x1 x2 x3 x4 E108 n x6 u → XN l Z i_M_make u0 Kv u 68 [(0, .ref x0), (1, .int x1), (2, .int x2), (3, .int x3), (4, .int x4), (6, .int x6)] [] := by
  intro n
  induction n with
  | zero => intro x6 u k; exact False.elim k
  | succ n ih =>
    intro x6 u k
    rw [p_M_make_L68] at k
    by_cases hc1 : 1024 ≤ x6
    · have k := k.1 hc1
      obtain ⟨rv, v9, hK, hle_u, w9⟩ := hE108 u k
      refine ⟨rv, v9, hK, hle_u, ?_⟩
      intro p e s m args below meth c A H locs ls F hw hl
      obtain ⟨⟨hx, hb, hml, hown, hts⟩, hr, hlocks, hmn⟩ := id F
      refine lv_iload hx hb d_M_make_68 (lv_at hl 5 rfl) ?_
      refine lv_sipush (v := 1024) hx hb d_M_make_70 (by decide) ?_
      refine lv_icmp_ge (tgt := 108) hx hb d_M_make_73 (by decide) (fun _ => ?_) (fun c9 => absurd hc1 c9)
      exact w9 p e s m args below meth c A H locs ls F hw (lv_sub hl [0, 1] rfl)
    · have k := k.2 hc1
      obtain ⟨z_27, h2, k⟩ := k
      obtain ⟨h4, k⟩ := k
      obtain ⟨_, u_28, ⟨r_29, rfl, k⟩, hM3⟩ := c_M_is l Z x0 x3 x6 u _ k
      obtain ⟨h6, k⟩ := k
      obtain ⟨_, u_30, ⟨r_31, rfl, k⟩, hM5⟩ := c_M_is l Z x0 x4 x6 u_28 _ k
      obtain ⟨_, u_32, ⟨r_33, rfl, k⟩, hM7⟩ := c_M_two l Z x2 r_29 r_31 u_30 _ k
      obtain ⟨u_34, h8, k⟩ := k
      obtain ⟨y9, ey9⟩ : ∃ y9 : Int32, y9 = x6 + 1 := ⟨_, rfl⟩
      have k := k y9 ey9
      obtain ⟨rv, v9, hK, hle_u_34, w9⟩ := ih y9 u_34 k
      have hle_u_32 : x_le u_32 v9 := (h8.le).tr hle_u_34
      have hle_u_30 : x_le u_30 v9 := (hM7.1).tr hle_u_32
      have hle_u_28 : x_le u_28 v9 := (hM5.1).tr hle_u_30
      have hle_u : x_le u v9 := (hM3.1).tr hle_u_28
      refine ⟨rv, v9, hK, hle_u, ?_⟩
      intro p e s m args below meth c A H locs ls F hw hl
      obtain ⟨⟨hx, hb, hml, hown, hts⟩, hr, hlocks, hmn⟩ := id F
      refine lv_iload hx hb d_M_make_68 (lv_at hl 5 rfl) ?_
      refine lv_sipush (v := 1024) hx hb d_M_make_70 (by decide) ?_
      refine lv_icmp_ge (tgt := 108) hx hb d_M_make_73 (by decide) (fun c9 => absurd c9 hc1) (fun _ => ?_)
      refine lv_aload_n hx hb d_M_make_76 rfl (lv_at hl 0 rfl) ?_
      refine xr_get hx hb hts (xmu uws_M) hown hw h2 rfl (by decide) (hts _ (xm w_870)) (fun _ h9 => h9) d_M_make_77 ?_
      refine lv_iload hx hb d_M_make_80 (lv_at hl 5 rfl) ?_
      refine lv_iload_n hx hb d_M_make_82 rfl (lv_at hl 2 rfl) ?_
      refine lv_aload_n hx hb d_M_make_83 rfl (lv_at hl 0 rfl) ?_
      refine lv_iload_n hx hb d_M_make_84 rfl (lv_at hl 3 rfl) ?_
      refine lv_iload hx hb d_M_make_85 (lv_at hl 5 rfl) ?_
      refine xr_cV (As := [.int x3, .int x6]) (rest := [.int x2, .int x6, .ref z_27]) ⟨hx, hb, hml, hown, hts⟩ hw hM3 hle_u_28 (fun _ _ => ⟨callB_of 2 hts (xgood w_944) rfl rfl rfl (hts _ (xm w_8)) (hts _ (xm w_941)) ⟨by decide, by decide, by decide +kernel⟩ ⟨Nat.le_of_ble_eq_true rfl, Nat.le_of_ble_eq_true rfl⟩, (hts _ (xm w_943)), (hts _ (xm wp_39))⟩) (qc := (R_M, F_M, 14)) rfl rfl h4 rfl hl.1 rfl (Nat.le_of_ble_eq_true rfl) d_M_make_87 (fun H locs hw => ?_)
      refine W.eq (g2 := F0 m 90 ls [.int r_29, .int x2, .int x6, .ref z_27]) rfl ?_
      refine lv_aload_n hx hb d_M_make_90 rfl (lv_at hl 0 rfl) ?_
      refine lv_iload hx hb d_M_make_91 (lv_at hl 4 rfl) ?_
      refine lv_iload hx hb d_M_make_93 (lv_at hl 5 rfl) ?_
      refine xr_cV (As := [.int x4, .int x6]) (rest := [.int r_29, .int x2, .int x6, .ref z_27]) ⟨hx, hb, hml, hown, hts⟩ hw hM5 hle_u_30 (fun _ _ => ⟨callB_of 2 hts (xgood w_944) rfl rfl rfl (hts _ (xm w_8)) (hts _ (xm w_941)) ⟨by decide, by decide, by decide +kernel⟩ ⟨Nat.le_of_ble_eq_true rfl, Nat.le_of_ble_eq_true rfl⟩, (hts _ (xm w_943)), (hts _ (xm wp_39))⟩) (qc := (R_M, F_M, 14)) rfl rfl h6 rfl hl.1 rfl (Nat.le_of_ble_eq_true rfl) d_M_make_95 (fun H locs hw => ?_)
      refine W.eq (g2 := F0 m 98 ls [.int r_31, .int r_29, .int x2, .int x6, .ref z_27]) rfl ?_
      refine xr_cS (As := [.int x2, .int r_29, .int r_31]) (rest := [.int x6, .ref z_27]) ⟨hx, hb, hml, hown, hts⟩ hw hM7 hle_u_32 (fun _ _ => ⟨callB_of 3 hts (xgood w_947) rfl rfl rfl (hts _ (xm w_8)) (hts _ (xm w_945)) ⟨by decide, by decide, by decide +kernel⟩ ⟨Nat.le_of_ble_eq_true rfl, Nat.le_of_ble_eq_true rfl⟩, (hts _ (xm w_946))⟩) rfl hl.1 rfl (Nat.le_of_ble_eq_true rfl) d_M_make_98 (fun H locs hw => ?_)
      refine W.eq (g2 := F0 m 101 ls [.int r_33, .int x6, .ref z_27]) rfl ?_
      refine xr_zast hx hb hw h8 d_M_make_101 (fun H locs hw => ?_)
      refine lv_iinc (v := y9) (lv' := [(6, .int y9), (0, .ref x0), (1, .int x1), (2, .int x2), (3, .int x3), (4, .int x4)]) hx hb d_M_make_102 hl (k := 5) rfl (by subst ey9; rfl) (by decide) rfl (fun ls hl => ?_)
      refine lv_goto (tgt := 68) hx hb d_M_make_105 (by decide) ?_
      exact w9 p e s m args below meth c A H locs ls F hw (lv_sub hl [1, 2, 3, 4, 5, 0] rfl)
set_option maxRecDepth 100000 in
set_option maxHeartbeats 4000000 in
theorem t_M_make_J108 (l : Launch) (Z : XZ) (u0 : PS) {K : PS → Prop} (x0 : Nat) (x1 : Int32) (u : PS) (k : (p_M_make_J108 K x0 x1 u)) : XN l Z i_M_make u0 (kV K) u 108 [(0, .ref x0), (1, .int x1)] [] := by
  unfold p_M_make_J108 at k
  obtain ⟨h2, k⟩ := k
  obtain ⟨_, u_35, ⟨rfl, k⟩, hM1⟩ := c_M_take l Z x0 x1 u _ k
  have hle_u_35 : x_le u_35 u_35 := x_le.rf u_35
  have hle_u : x_le u u_35 := (hM1.1).tr hle_u_35
  refine ⟨none, u_35, ⟨rfl, k⟩, hle_u, ?_⟩
  intro p e s m args below meth c A H locs ls F hw hl
  obtain ⟨⟨hx, hb, hml, hown, hts⟩, hr, hlocks, hmn⟩ := id F
  refine lv_aload_n hx hb d_M_make_108 rfl (lv_at hl 0 rfl) ?_
  refine lv_iload_n hx hb d_M_make_109 rfl (lv_at hl 1 rfl) ?_
  refine xr_cV (As := [.int x1]) (rest := []) ⟨hx, hb, hml, hown, hts⟩ hw hM1 hle_u_35 (fun _ _ => ⟨callB_of 1 hts (xgood w_951) rfl rfl rfl (hts _ (xm w_8)) (hts _ (xm w_948)) ⟨by decide, by decide, by decide +kernel⟩ ⟨Nat.le_of_ble_eq_true rfl, Nat.le_of_ble_eq_true rfl⟩, (hts _ (xm w_950)), (hts _ (xm wp_40))⟩) (qc := (R_M, F_M, 14)) rfl rfl h2 rfl hl.1 rfl (Nat.le_of_ble_eq_true rfl) d_M_make_110 (fun H locs hw => ?_)
  refine W.eq (g2 := F0 m 113 ls []) rfl ?_
  exact xr_vret F rfl hw d_M_make_113
set_option maxRecDepth 100000 in
set_option maxHeartbeats 4000000 in
theorem t_M_make_J59 (l : Launch) (Z : XZ) (u0 : PS) {K : PS → Prop} (x0 : Nat) (x1 : Int32) (x2 : Int32) (x3 : Int32) (x4 : Int32) (s0 : Nat) (s1 : Int32) (s2 : Int32) (u : PS) (k : (p_M_make_J59 K x0 x1 x2 x3 x4 s0 s1 s2 u)) : XN l Z i_M_make u0 (kV K) u 59 [(0, .ref x0), (1, .int x1), (2, .int x2), (3, .int x3), (4, .int x4)] [.int s2, .int s1, .ref s0] := by
  unfold p_M_make_J59 at k
  obtain ⟨h2, k⟩ := k
  obtain ⟨_, u_25, ⟨r_26, rfl, k⟩, hM1⟩ := c_M_refuse l Z s0 s1 s2 u _ k
  by_cases hc3 : r_26 = 0
  · have k := k.2 hc3
    obtain ⟨n4, k⟩ := k
    have hx6 : ∀ (v5 : PS), (p_M_make_J108 K x0 x1 v5) → XN l Z i_M_make u0 (kV K) v5 108 [(0, .ref x0), (1, .int x1)] [] := by
      intro v5 k
      obtain ⟨rv, v9, hK, hle_v5, w9⟩ := t_M_make_J108 l Z u0 x0 x1 v5 k
      refine ⟨rv, v9, hK, hle_v5, ?_⟩
      intro p e s m args below meth c A H locs ls F hw hl
      obtain ⟨⟨hx, hb, hml, hown, hts⟩, hr, hlocks, hmn⟩ := id F
      exact w9 p e s m args below meth c A H locs ls F hw (lv_sub hl [0, 1] rfl)
    obtain ⟨rv, v9, hK, hle_u_25, w9⟩ := t_M_make_L68 l Z u0 x0 x1 x2 x3 x4 hx6 n4 (0 : Int32) u_25 k
    have hle_u : x_le u v9 := (hM1.1).tr hle_u_25
    refine ⟨rv, v9, hK, hle_u, ?_⟩
    intro p e s m args below meth c A H locs ls F hw hl
    obtain ⟨⟨hx, hb, hml, hown, hts⟩, hr, hlocks, hmn⟩ := id F
    refine xr_cV (As := [.int s1, .int s2]) (rest := []) ⟨hx, hb, hml, hown, hts⟩ hw hM1 hle_u_25 (fun _ _ => ⟨callB_of 2 hts (xgood w_929) rfl rfl rfl (hts _ (xm w_8)) (hts _ (xm w_926)) ⟨by decide, by decide, by decide +kernel⟩ ⟨Nat.le_of_ble_eq_true rfl, Nat.le_of_ble_eq_true rfl⟩, (hts _ (xm w_928)), (hts _ (xm wp_38))⟩) (qc := (R_M, F_M, 14)) rfl rfl h2 rfl hl.1 rfl (Nat.le_of_ble_eq_true rfl) d_M_make_59 (fun H locs hw => ?_)
    refine W.eq (g2 := F0 m 62 ls [.int r_26]) rfl ?_
    refine lv_if_ne (tgt := 113) hx hb d_M_make_62 (by decide) (fun c9 => absurd hc3 c9) (fun _ => ?_)
    refine lv_iconst (v := 0) hx hb d_M_make_65 (by decide) ?_
    refine lv_istore (lv' := [(6, .int 0), (0, .ref x0), (1, .int x1), (2, .int x2), (3, .int x3), (4, .int x4)]) hx hb d_M_make_66 hl (by decide) rfl (fun ls hl => ?_)
    exact w9 p e s m args below meth c A H locs ls F hw (lv_sub hl [1, 2, 3, 4, 5, 0] rfl)
  · have k := k.1 hc3
    have hle_u_25 : x_le u_25 u_25 := x_le.rf u_25
    have hle_u : x_le u u_25 := (hM1.1).tr hle_u_25
    refine ⟨none, u_25, ⟨rfl, k⟩, hle_u, ?_⟩
    intro p e s m args below meth c A H locs ls F hw hl
    obtain ⟨⟨hx, hb, hml, hown, hts⟩, hr, hlocks, hmn⟩ := id F
    refine xr_cV (As := [.int s1, .int s2]) (rest := []) ⟨hx, hb, hml, hown, hts⟩ hw hM1 hle_u_25 (fun _ _ => ⟨callB_of 2 hts (xgood w_929) rfl rfl rfl (hts _ (xm w_8)) (hts _ (xm w_926)) ⟨by decide, by decide, by decide +kernel⟩ ⟨Nat.le_of_ble_eq_true rfl, Nat.le_of_ble_eq_true rfl⟩, (hts _ (xm w_928)), (hts _ (xm wp_38))⟩) (qc := (R_M, F_M, 14)) rfl rfl h2 rfl hl.1 rfl (Nat.le_of_ble_eq_true rfl) d_M_make_59 (fun H locs hw => ?_)
    refine W.eq (g2 := F0 m 62 ls [.int r_26]) rfl ?_
    refine lv_if_ne (tgt := 113) hx hb d_M_make_62 (by decide) (fun _ => ?_) (fun c9 => absurd c9 hc3)
    exact xr_vret F rfl hw d_M_make_113
set_option maxRecDepth 100000 in
set_option maxHeartbeats 4000000 in
theorem t_M_make_J58 (l : Launch) (Z : XZ) (u0 : PS) {K : PS → Prop} (x0 : Nat) (x1 : Int32) (x2 : Int32) (x3 : Int32) (x4 : Int32) (s0 : Nat) (s1 : Int32) (u : PS) (k : (p_M_make_J58 K x0 x1 x2 x3 x4 s0 s1 u)) : XN l Z i_M_make u0 (kV K) u 58 [(0, .ref x0), (1, .int x1), (2, .int x2), (3, .int x3), (4, .int x4)] [.int s1, .ref s0] := by
  unfold p_M_make_J58 at k
  obtain ⟨rv, v9, hK, hle_u, w9⟩ := t_M_make_J59 l Z u0 x0 x1 x2 x3 x4 s0 s1 (0 : Int32) u k
  refine ⟨rv, v9, hK, hle_u, ?_⟩
  intro p e s m args below meth c A H locs ls F hw hl
  obtain ⟨⟨hx, hb, hml, hown, hts⟩, hr, hlocks, hmn⟩ := id F
  refine lv_iconst (v := 0) hx hb d_M_make_58 (by decide) ?_
  exact w9 p e s m args below meth c A H locs ls F hw (lv_sub hl [0, 1, 2, 3, 4] rfl)
set_option maxRecDepth 100000 in
set_option maxHeartbeats 4000000 in
theorem t_M_make_J40 (l : Launch) (Z : XZ) (u0 : PS) {K : PS → Prop} (x0 : Nat) (x1 : Int32) (x2 : Int32) (x3 : Int32) (x4 : Int32) (x5 : Int32) (s0 : Nat) (s1 : Int32) (u : PS) (k : (p_M_make_J40 K x0 x1 x2 x3 x4 x5 s0 s1 u)) : XN l Z i_M_make u0 (kV K) u 40 [(0, .ref x0), (1, .int x1), (2, .int x2), (3, .int x3), (4, .int x4), (5, .int x5)] [.int s1, .ref s0] := by
  unfold p_M_make_J40 at k
  by_cases hc1 : x5 = 0
  · have k := k.1 hc1
    obtain ⟨rv, v9, hK, hle_u, w9⟩ := t_M_make_J58 l Z u0 x0 x1 x2 x3 x4 s0 s1 u k
    refine ⟨rv, v9, hK, hle_u, ?_⟩
    intro p e s m args below meth c A H locs ls F hw hl
    obtain ⟨⟨hx, hb, hml, hown, hts⟩, hr, hlocks, hmn⟩ := id F
    refine lv_iload hx hb d_M_make_40 (lv_at hl 5 rfl) ?_
    refine lv_if_eq (tgt := 58) hx hb d_M_make_42 (by decide) (fun _ => ?_) (fun c9 => absurd hc1 c9)
    exact w9 p e s m args below meth c A H locs ls F hw (lv_sub hl [0, 1, 2, 3, 4] rfl)
  · have k := k.2 hc1
    obtain ⟨_, u_36, ⟨r_37, rfl, k⟩, hM2⟩ := c_M_in l Z x2 (0 : Int32) (5 : Int32) u _ k
    by_cases hc3 : r_37 = 0
    · have k := k.2 hc3
      obtain ⟨rv, v9, hK, hle_u_36, w9⟩ := t_M_make_J59 l Z u0 x0 x1 x2 x3 x4 s0 s1 (1 : Int32) u_36 k
      have hle_u : x_le u v9 := (hM2.1).tr hle_u_36
      refine ⟨rv, v9, hK, hle_u, ?_⟩
      intro p e s m args below meth c A H locs ls F hw hl
      obtain ⟨⟨hx, hb, hml, hown, hts⟩, hr, hlocks, hmn⟩ := id F
      refine lv_iload hx hb d_M_make_40 (lv_at hl 5 rfl) ?_
      refine lv_if_eq (tgt := 58) hx hb d_M_make_42 (by decide) (fun c9 => absurd c9 hc1) (fun _ => ?_)
      refine lv_iload_n hx hb d_M_make_45 rfl (lv_at hl 2 rfl) ?_
      refine lv_iconst (v := 0) hx hb d_M_make_46 (by decide) ?_
      refine lv_iconst (v := 5) hx hb d_M_make_47 (by decide) ?_
      refine xr_cS (As := [.int x2, .int 0, .int 5]) (rest := [.int s1, .ref s0]) ⟨hx, hb, hml, hown, hts⟩ hw hM2 hle_u_36 (fun _ _ => ⟨callB_of 3 hts (xgood w_925) rfl rfl rfl (hts _ (xm w_8)) (hts _ (xm w_923)) ⟨by decide, by decide, by decide +kernel⟩ ⟨Nat.le_of_ble_eq_true rfl, Nat.le_of_ble_eq_true rfl⟩, (hts _ (xm w_924))⟩) rfl hl.1 rfl (Nat.le_of_ble_eq_true rfl) d_M_make_48 (fun H locs hw => ?_)
      refine W.eq (g2 := F0 m 51 ls [.int r_37, .int s1, .ref s0]) rfl ?_
      refine lv_if_ne (tgt := 58) hx hb d_M_make_51 (by decide) (fun c9 => absurd hc3 c9) (fun _ => ?_)
      refine lv_iconst (v := 1) hx hb d_M_make_54 (by decide) ?_
      refine lv_goto (tgt := 59) hx hb d_M_make_55 (by decide) ?_
      exact w9 p e s m args below meth c A H locs ls F hw (lv_sub hl [0, 1, 2, 3, 4] rfl)
    · have k := k.1 hc3
      obtain ⟨rv, v9, hK, hle_u_36, w9⟩ := t_M_make_J58 l Z u0 x0 x1 x2 x3 x4 s0 s1 u_36 k
      have hle_u : x_le u v9 := (hM2.1).tr hle_u_36
      refine ⟨rv, v9, hK, hle_u, ?_⟩
      intro p e s m args below meth c A H locs ls F hw hl
      obtain ⟨⟨hx, hb, hml, hown, hts⟩, hr, hlocks, hmn⟩ := id F
      refine lv_iload hx hb d_M_make_40 (lv_at hl 5 rfl) ?_
      refine lv_if_eq (tgt := 58) hx hb d_M_make_42 (by decide) (fun c9 => absurd c9 hc1) (fun _ => ?_)
      refine lv_iload_n hx hb d_M_make_45 rfl (lv_at hl 2 rfl) ?_
      refine lv_iconst (v := 0) hx hb d_M_make_46 (by decide) ?_
      refine lv_iconst (v := 5) hx hb d_M_make_47 (by decide) ?_
      refine xr_cS (As := [.int x2, .int 0, .int 5]) (rest := [.int s1, .ref s0]) ⟨hx, hb, hml, hown, hts⟩ hw hM2 hle_u_36 (fun _ _ => ⟨callB_of 3 hts (xgood w_925) rfl rfl rfl (hts _ (xm w_8)) (hts _ (xm w_923)) ⟨by decide, by decide, by decide +kernel⟩ ⟨Nat.le_of_ble_eq_true rfl, Nat.le_of_ble_eq_true rfl⟩, (hts _ (xm w_924))⟩) rfl hl.1 rfl (Nat.le_of_ble_eq_true rfl) d_M_make_48 (fun H locs hw => ?_)
      refine W.eq (g2 := F0 m 51 ls [.int r_37, .int s1, .ref s0]) rfl ?_
      refine lv_if_ne (tgt := 58) hx hb d_M_make_51 (by decide) (fun _ => ?_) (fun c9 => absurd c9 hc3)
      exact w9 p e s m args below meth c A H locs ls F hw (lv_sub hl [0, 1, 2, 3, 4] rfl)
set_option maxRecDepth 100000 in
set_option maxHeartbeats 4000000 in
theorem t_M_make_J27 (l : Launch) (Z : XZ) (u0 : PS) {K : PS → Prop} (x0 : Nat) (x1 : Int32) (x2 : Int32) (x3 : Int32) (x4 : Int32) (s0 : Int32) (u : PS) (k : (p_M_make_J27 K x0 x1 x2 x3 x4 s0 u)) : XN l Z i_M_make u0 (kV K) u 27 [(0, .ref x0), (1, .int x1), (2, .int x2), (3, .int x3), (4, .int x4)] [.int s0] := by
  unfold p_M_make_J27 at k
  by_cases hc1 : s0 = 0
  · have k := k.2 hc1
    obtain ⟨rv, v9, hK, hle_u, w9⟩ := t_M_make_J40 l Z u0 x0 x1 x2 x3 x4 s0 x0 (1 : Int32) u k
    refine ⟨rv, v9, hK, hle_u, ?_⟩
    intro p e s m args below meth c A H locs ls F hw hl
    obtain ⟨⟨hx, hb, hml, hown, hts⟩, hr, hlocks, hmn⟩ := id F
    refine lv_istore (lv' := [(5, .int s0), (0, .ref x0), (1, .int x1), (2, .int x2), (3, .int x3), (4, .int x4)]) hx hb d_M_make_27 hl (by decide) rfl (fun ls hl => ?_)
    refine lv_aload_n hx hb d_M_make_29 rfl (lv_at hl 1 rfl) ?_
    refine lv_iload hx hb d_M_make_30 (lv_at hl 0 rfl) ?_
    refine lv_if_ne (tgt := 39) hx hb d_M_make_32 (by decide) (fun c9 => absurd hc1 c9) (fun _ => ?_)
    refine lv_iconst (v := 1) hx hb d_M_make_35 (by decide) ?_
    refine lv_goto (tgt := 40) hx hb d_M_make_36 (by decide) ?_
    exact w9 p e s m args below meth c A H locs ls F hw (lv_sub hl [1, 2, 3, 4, 5, 0] rfl)
  · have k := k.1 hc1
    obtain ⟨rv, v9, hK, hle_u, w9⟩ := t_M_make_J40 l Z u0 x0 x1 x2 x3 x4 s0 x0 (0 : Int32) u k
    refine ⟨rv, v9, hK, hle_u, ?_⟩
    intro p e s m args below meth c A H locs ls F hw hl
    obtain ⟨⟨hx, hb, hml, hown, hts⟩, hr, hlocks, hmn⟩ := id F
    refine lv_istore (lv' := [(5, .int s0), (0, .ref x0), (1, .int x1), (2, .int x2), (3, .int x3), (4, .int x4)]) hx hb d_M_make_27 hl (by decide) rfl (fun ls hl => ?_)
    refine lv_aload_n hx hb d_M_make_29 rfl (lv_at hl 1 rfl) ?_
    refine lv_iload hx hb d_M_make_30 (lv_at hl 0 rfl) ?_
    refine lv_if_ne (tgt := 39) hx hb d_M_make_32 (by decide) (fun _ => ?_) (fun c9 => absurd c9 hc1)
    refine lv_iconst (v := 0) hx hb d_M_make_39 (by decide) ?_
    exact w9 p e s m args below meth c A H locs ls F hw (lv_sub hl [1, 2, 3, 4, 5, 0] rfl)
set_option maxRecDepth 100000 in
set_option maxHeartbeats 4000000 in
theorem t_M_make_J26 (l : Launch) (Z : XZ) (u0 : PS) {K : PS → Prop} (x0 : Nat) (x1 : Int32) (x2 : Int32) (x3 : Int32) (x4 : Int32) (u : PS) (k : (p_M_make_J26 K x0 x1 x2 x3 x4 u)) : XN l Z i_M_make u0 (kV K) u 26 [(0, .ref x0), (1, .int x1), (2, .int x2), (3, .int x3), (4, .int x4)] [] := by
  unfold p_M_make_J26 at k
  obtain ⟨rv, v9, hK, hle_u, w9⟩ := t_M_make_J27 l Z u0 x0 x1 x2 x3 x4 (0 : Int32) u k
  refine ⟨rv, v9, hK, hle_u, ?_⟩
  intro p e s m args below meth c A H locs ls F hw hl
  obtain ⟨⟨hx, hb, hml, hown, hts⟩, hr, hlocks, hmn⟩ := id F
  refine lv_iconst (v := 0) hx hb d_M_make_26 (by decide) ?_
  exact w9 p e s m args below meth c A H locs ls F hw (lv_sub hl [0, 1, 2, 3, 4] rfl)
set_option maxRecDepth 100000 in
set_option maxHeartbeats 4000000 in
theorem c_M_make (l : Launch) (Z : XZ) (x0 : Nat) (x1 : Int32) (x2 : Int32) (x3 : Int32) (x4 : Int32) (u : PS) (K : PS → Prop) (k : p_M_make x0 x1 x2 x3 x4 u K) : ∃ (rv : Option Value) (u1 : PS), (kV K) rv u1 ∧ XMet l Z i_M_make [.ref x0, .int x1, .int x2, .int x3, .int x4] u rv u1 := by
  refine x_met (by decide) rfl (Nat.le_of_ble_eq_true rfl) ?_
  show XN l Z i_M_make u (kV K) u 0 [(0, .ref x0), (1, .int x1), (2, .int x2), (3, .int x3), (4, .int x4)] []
  unfold p_M_make at k
  obtain ⟨_, u_23, ⟨r_24, rfl, k⟩, hM1⟩ := c_M_isPlace l Z x1 u _ k
  by_cases hc2 : r_24 = 0
  · have k := k.1 hc2
    obtain ⟨rv, v9, hK, hle_u_23, w9⟩ := t_M_make_J26 l Z u x0 x1 x2 x3 x4 u_23 k
    have hle_u : x_le u v9 := (hM1.1).tr hle_u_23
    refine ⟨rv, v9, hK, hle_u, ?_⟩
    intro p e s m args below meth c A H locs ls F hw hl
    obtain ⟨⟨hx, hb, hml, hown, hts⟩, hr, hlocks, hmn⟩ := id F
    refine lv_iload_n hx hb d_M_make_0 rfl (lv_at hl 1 rfl) ?_
    refine xr_cS (As := [.int x1]) (rest := []) ⟨hx, hb, hml, hown, hts⟩ hw hM1 hle_u_23 (fun _ _ => ⟨callB_of 1 hts (xgood w_922) rfl rfl rfl (hts _ (xm w_8)) (hts _ (xm w_920)) ⟨by decide, by decide, by decide +kernel⟩ ⟨Nat.le_of_ble_eq_true rfl, Nat.le_of_ble_eq_true rfl⟩, (hts _ (xm w_921))⟩) rfl hl.1 rfl (Nat.le_of_ble_eq_true rfl) d_M_make_1 (fun H locs hw => ?_)
    refine W.eq (g2 := F0 m 4 ls [.int r_24]) rfl ?_
    refine lv_if_eq (tgt := 26) hx hb d_M_make_4 (by decide) (fun _ => ?_) (fun c9 => absurd hc2 c9)
    exact w9 p e s m args below meth c A H locs ls F hw (lv_sub hl [0, 1, 2, 3, 4] rfl)
  · have k := k.2 hc2
    obtain ⟨_, u_38, ⟨r_39, rfl, k⟩, hM3⟩ := c_M_isPlace l Z x3 u_23 _ k
    by_cases hc4 : r_39 = 0
    · have k := k.1 hc4
      obtain ⟨rv, v9, hK, hle_u_38, w9⟩ := t_M_make_J26 l Z u x0 x1 x2 x3 x4 u_38 k
      have hle_u_23 : x_le u_23 v9 := (hM3.1).tr hle_u_38
      have hle_u : x_le u v9 := (hM1.1).tr hle_u_23
      refine ⟨rv, v9, hK, hle_u, ?_⟩
      intro p e s m args below meth c A H locs ls F hw hl
      obtain ⟨⟨hx, hb, hml, hown, hts⟩, hr, hlocks, hmn⟩ := id F
      refine lv_iload_n hx hb d_M_make_0 rfl (lv_at hl 1 rfl) ?_
      refine xr_cS (As := [.int x1]) (rest := []) ⟨hx, hb, hml, hown, hts⟩ hw hM1 hle_u_23 (fun _ _ => ⟨callB_of 1 hts (xgood w_922) rfl rfl rfl (hts _ (xm w_8)) (hts _ (xm w_920)) ⟨by decide, by decide, by decide +kernel⟩ ⟨Nat.le_of_ble_eq_true rfl, Nat.le_of_ble_eq_true rfl⟩, (hts _ (xm w_921))⟩) rfl hl.1 rfl (Nat.le_of_ble_eq_true rfl) d_M_make_1 (fun H locs hw => ?_)
      refine W.eq (g2 := F0 m 4 ls [.int r_24]) rfl ?_
      refine lv_if_eq (tgt := 26) hx hb d_M_make_4 (by decide) (fun c9 => absurd c9 hc2) (fun _ => ?_)
      refine lv_iload_n hx hb d_M_make_7 rfl (lv_at hl 3 rfl) ?_
      refine xr_cS (As := [.int x3]) (rest := []) ⟨hx, hb, hml, hown, hts⟩ hw hM3 hle_u_38 (fun _ _ => ⟨callB_of 1 hts (xgood w_922) rfl rfl rfl (hts _ (xm w_8)) (hts _ (xm w_920)) ⟨by decide, by decide, by decide +kernel⟩ ⟨Nat.le_of_ble_eq_true rfl, Nat.le_of_ble_eq_true rfl⟩, (hts _ (xm w_921))⟩) rfl hl.1 rfl (Nat.le_of_ble_eq_true rfl) d_M_make_8 (fun H locs hw => ?_)
      refine W.eq (g2 := F0 m 11 ls [.int r_39]) rfl ?_
      refine lv_if_eq (tgt := 26) hx hb d_M_make_11 (by decide) (fun _ => ?_) (fun c9 => absurd hc4 c9)
      exact w9 p e s m args below meth c A H locs ls F hw (lv_sub hl [0, 1, 2, 3, 4] rfl)
    · have k := k.2 hc4
      obtain ⟨_, u_40, ⟨r_41, rfl, k⟩, hM5⟩ := c_M_isPlace l Z x4 u_38 _ k
      by_cases hc6 : r_41 = 0
      · have k := k.1 hc6
        obtain ⟨rv, v9, hK, hle_u_40, w9⟩ := t_M_make_J26 l Z u x0 x1 x2 x3 x4 u_40 k
        have hle_u_38 : x_le u_38 v9 := (hM5.1).tr hle_u_40
        have hle_u_23 : x_le u_23 v9 := (hM3.1).tr hle_u_38
        have hle_u : x_le u v9 := (hM1.1).tr hle_u_23
        refine ⟨rv, v9, hK, hle_u, ?_⟩
        intro p e s m args below meth c A H locs ls F hw hl
        obtain ⟨⟨hx, hb, hml, hown, hts⟩, hr, hlocks, hmn⟩ := id F
        refine lv_iload_n hx hb d_M_make_0 rfl (lv_at hl 1 rfl) ?_
        refine xr_cS (As := [.int x1]) (rest := []) ⟨hx, hb, hml, hown, hts⟩ hw hM1 hle_u_23 (fun _ _ => ⟨callB_of 1 hts (xgood w_922) rfl rfl rfl (hts _ (xm w_8)) (hts _ (xm w_920)) ⟨by decide, by decide, by decide +kernel⟩ ⟨Nat.le_of_ble_eq_true rfl, Nat.le_of_ble_eq_true rfl⟩, (hts _ (xm w_921))⟩) rfl hl.1 rfl (Nat.le_of_ble_eq_true rfl) d_M_make_1 (fun H locs hw => ?_)
        refine W.eq (g2 := F0 m 4 ls [.int r_24]) rfl ?_
        refine lv_if_eq (tgt := 26) hx hb d_M_make_4 (by decide) (fun c9 => absurd c9 hc2) (fun _ => ?_)
        refine lv_iload_n hx hb d_M_make_7 rfl (lv_at hl 3 rfl) ?_
        refine xr_cS (As := [.int x3]) (rest := []) ⟨hx, hb, hml, hown, hts⟩ hw hM3 hle_u_38 (fun _ _ => ⟨callB_of 1 hts (xgood w_922) rfl rfl rfl (hts _ (xm w_8)) (hts _ (xm w_920)) ⟨by decide, by decide, by decide +kernel⟩ ⟨Nat.le_of_ble_eq_true rfl, Nat.le_of_ble_eq_true rfl⟩, (hts _ (xm w_921))⟩) rfl hl.1 rfl (Nat.le_of_ble_eq_true rfl) d_M_make_8 (fun H locs hw => ?_)
        refine W.eq (g2 := F0 m 11 ls [.int r_39]) rfl ?_
        refine lv_if_eq (tgt := 26) hx hb d_M_make_11 (by decide) (fun c9 => absurd c9 hc4) (fun _ => ?_)
        refine lv_iload hx hb d_M_make_14 (lv_at hl 4 rfl) ?_
        refine xr_cS (As := [.int x4]) (rest := []) ⟨hx, hb, hml, hown, hts⟩ hw hM5 hle_u_40 (fun _ _ => ⟨callB_of 1 hts (xgood w_922) rfl rfl rfl (hts _ (xm w_8)) (hts _ (xm w_920)) ⟨by decide, by decide, by decide +kernel⟩ ⟨Nat.le_of_ble_eq_true rfl, Nat.le_of_ble_eq_true rfl⟩, (hts _ (xm w_921))⟩) rfl hl.1 rfl (Nat.le_of_ble_eq_true rfl) d_M_make_16 (fun H locs hw => ?_)
        refine W.eq (g2 := F0 m 19 ls [.int r_41]) rfl ?_
        refine lv_if_eq (tgt := 26) hx hb d_M_make_19 (by decide) (fun _ => ?_) (fun c9 => absurd hc6 c9)
        exact w9 p e s m args below meth c A H locs ls F hw (lv_sub hl [0, 1, 2, 3, 4] rfl)
      · have k := k.2 hc6
        obtain ⟨rv, v9, hK, hle_u_40, w9⟩ := t_M_make_J27 l Z u x0 x1 x2 x3 x4 (1 : Int32) u_40 k
        have hle_u_38 : x_le u_38 v9 := (hM5.1).tr hle_u_40
        have hle_u_23 : x_le u_23 v9 := (hM3.1).tr hle_u_38
        have hle_u : x_le u v9 := (hM1.1).tr hle_u_23
        refine ⟨rv, v9, hK, hle_u, ?_⟩
        intro p e s m args below meth c A H locs ls F hw hl
        obtain ⟨⟨hx, hb, hml, hown, hts⟩, hr, hlocks, hmn⟩ := id F
        refine lv_iload_n hx hb d_M_make_0 rfl (lv_at hl 1 rfl) ?_
        refine xr_cS (As := [.int x1]) (rest := []) ⟨hx, hb, hml, hown, hts⟩ hw hM1 hle_u_23 (fun _ _ => ⟨callB_of 1 hts (xgood w_922) rfl rfl rfl (hts _ (xm w_8)) (hts _ (xm w_920)) ⟨by decide, by decide, by decide +kernel⟩ ⟨Nat.le_of_ble_eq_true rfl, Nat.le_of_ble_eq_true rfl⟩, (hts _ (xm w_921))⟩) rfl hl.1 rfl (Nat.le_of_ble_eq_true rfl) d_M_make_1 (fun H locs hw => ?_)
        refine W.eq (g2 := F0 m 4 ls [.int r_24]) rfl ?_
        refine lv_if_eq (tgt := 26) hx hb d_M_make_4 (by decide) (fun c9 => absurd c9 hc2) (fun _ => ?_)
        refine lv_iload_n hx hb d_M_make_7 rfl (lv_at hl 3 rfl) ?_
        refine xr_cS (As := [.int x3]) (rest := []) ⟨hx, hb, hml, hown, hts⟩ hw hM3 hle_u_38 (fun _ _ => ⟨callB_of 1 hts (xgood w_922) rfl rfl rfl (hts _ (xm w_8)) (hts _ (xm w_920)) ⟨by decide, by decide, by decide +kernel⟩ ⟨Nat.le_of_ble_eq_true rfl, Nat.le_of_ble_eq_true rfl⟩, (hts _ (xm w_921))⟩) rfl hl.1 rfl (Nat.le_of_ble_eq_true rfl) d_M_make_8 (fun H locs hw => ?_)
        refine W.eq (g2 := F0 m 11 ls [.int r_39]) rfl ?_
        refine lv_if_eq (tgt := 26) hx hb d_M_make_11 (by decide) (fun c9 => absurd c9 hc4) (fun _ => ?_)
        refine lv_iload hx hb d_M_make_14 (lv_at hl 4 rfl) ?_
        refine xr_cS (As := [.int x4]) (rest := []) ⟨hx, hb, hml, hown, hts⟩ hw hM5 hle_u_40 (fun _ _ => ⟨callB_of 1 hts (xgood w_922) rfl rfl rfl (hts _ (xm w_8)) (hts _ (xm w_920)) ⟨by decide, by decide, by decide +kernel⟩ ⟨Nat.le_of_ble_eq_true rfl, Nat.le_of_ble_eq_true rfl⟩, (hts _ (xm w_921))⟩) rfl hl.1 rfl (Nat.le_of_ble_eq_true rfl) d_M_make_16 (fun H locs hw => ?_)
        refine W.eq (g2 := F0 m 19 ls [.int r_41]) rfl ?_
        refine lv_if_eq (tgt := 26) hx hb d_M_make_19 (by decide) (fun c9 => absurd c9 hc6) (fun _ => ?_)
        refine lv_iconst (v := 1) hx hb d_M_make_22 (by decide) ?_
        refine lv_goto (tgt := 27) hx hb d_M_make_23 (by decide) ?_
        exact w9 p e s m args below meth c A H locs ls F hw (lv_sub hl [0, 1, 2, 3, 4] rfl)
