set_option maxRecDepth 100000 in
set_option maxHeartbeats 4000000 in
theorem t_D_init_L61 (l : Launch) (Z : XZ) (u0 : PS) {Kv : Option Value → PS → Prop} {E80 : PS → Prop} (x0 : Nat) (hE80 : ∀ (v : PS), E80 v → XN l Z i_D_init u0 Kv v 80 [(0, .ref x0)] []) : ∀ (n : Nat) (x2 : Int32) (u : PS), p_D_init_L61 x0 E80 n x2 u → XN l Z i_D_init u0 Kv u 61 [(0, .ref x0), (2, .int x2)] [] := by
  intro n
  induction n with
  | zero => intro x2 u k; exact False.elim k
  | succ n ih =>
    intro x2 u k
    rw [p_D_init_L61] at k
    by_cases hc1 : 10 ≤ x2
    · have k := k.1 hc1
      obtain ⟨rv, v9, hK, hle_u, w9⟩ := hE80 u k
      refine ⟨rv, v9, hK, hle_u, ?_⟩
      intro p e s m args below meth c A H locs ls F hw hl
      obtain ⟨⟨hx, hb, hml, hown, hts⟩, hr, hlocks, hmn⟩ := id F
      refine lv_iload_n hx hb d_D_init_61 rfl (lv_at hl 1 rfl) ?_
      refine lv_bipush (v := 10) hx hb d_D_init_62 (by decide) ?_
      refine lv_icmp_ge (tgt := 80) hx hb d_D_init_64 (by decide) (fun _ => ?_) (fun c9 => absurd hc1 c9)
      exact w9 p e s m args below meth c A H locs ls F hw (lv_sub hl [0] rfl)
    · have k := k.2 hc1
      obtain ⟨z_53, h2, k⟩ := k
      obtain ⟨u_54, h3, k⟩ := k
      obtain ⟨y4, ey4⟩ : ∃ y9 : Int32, y9 = x2 + 1 := ⟨_, rfl⟩
      have k := k y4 ey4
      obtain ⟨rv, v9, hK, hle_u_54, w9⟩ := ih y4 u_54 k
      have hle_u : x_le u v9 := (h3.le).tr hle_u_54
      refine ⟨rv, v9, hK, hle_u, ?_⟩
      intro p e s m args below meth c A H locs ls F hw hl
      obtain ⟨⟨hx, hb, hml, hown, hts⟩, hr, hlocks, hmn⟩ := id F
      refine lv_iload_n hx hb d_D_init_61 rfl (lv_at hl 1 rfl) ?_
      refine lv_bipush (v := 10) hx hb d_D_init_62 (by decide) ?_
      refine lv_icmp_ge (tgt := 80) hx hb d_D_init_64 (by decide) (fun c9 => absurd c9 hc1) (fun _ => ?_)
      refine lv_aload_n hx hb d_D_init_67 rfl (lv_at hl 0 rfl) ?_
      refine xr_get hx hb hts (xmu uws_D) hown hw h2 rfl (by decide) (hts _ (xm w_195)) (fun _ h9 => h9) d_D_init_68 ?_
      refine lv_iload_n hx hb d_D_init_71 rfl (lv_at hl 1 rfl) ?_
      refine lv_iload_n hx hb d_D_init_72 rfl (lv_at hl 1 rfl) ?_
      refine xr_iast hx hb hw h3 d_D_init_73 (fun H locs hw => ?_)
      refine lv_iinc (v := y4) (lv' := [(2, .int y4), (0, .ref x0)]) hx hb d_D_init_74 hl (k := 1) rfl (by subst ey4; rfl) (by decide) rfl (fun ls hl => ?_)
      refine lv_goto (tgt := 61) hx hb d_D_init_77 (by decide) ?_
      exact w9 p e s m args below meth c A H locs ls F hw (lv_sub hl [1, 0] rfl)
set_option maxRecDepth 100000 in
set_option maxHeartbeats 4000000 in
theorem t_D_init_J80 (l : Launch) (Z : XZ) (u0 : PS) {K : PS → Prop} (x0 : Nat) (u : PS) (k : (p_D_init_J80 K x0 u)) : XN l Z i_D_init u0 (kV K) u 80 [(0, .ref x0)] [] := by
  unfold p_D_init_J80 at k
  obtain ⟨a_55, u_56, h1, k⟩ := k
  obtain ⟨u_57, h2, k⟩ := k
  obtain ⟨u_58, h3, k⟩ := k
  obtain ⟨a_59, u_60, h4, k⟩ := k
  obtain ⟨u_61, h5, k⟩ := k
  obtain ⟨h7, k⟩ := k
  obtain ⟨u_62, h6, k⟩ := k
  obtain ⟨a_63, u_64, h8, k⟩ := k
  obtain ⟨u_65, h9, k⟩ := k
  have hle_u_65 : x_le u_65 u_65 := x_le.rf u_65
  have hle_u_64 : x_le u_64 u_65 := (h9.le).tr hle_u_65
  have hle_u_62 : x_le u_62 u_65 := (h8.le).tr hle_u_64
  have hle_u_61 : x_le u_61 u_65 := (h6.le).tr hle_u_62
  have hle_u_60 : x_le u_60 u_65 := (h5.le).tr hle_u_61
  have hle_u_58 : x_le u_58 u_65 := (h4.le).tr hle_u_60
  have hle_u_57 : x_le u_57 u_65 := (h3.le).tr hle_u_58
  have hle_u_56 : x_le u_56 u_65 := (h2.le).tr hle_u_57
  have hle_u : x_le u u_65 := (h1.le).tr hle_u_56
  refine ⟨none, u_65, ⟨rfl, k⟩, hle_u, ?_⟩
  intro p e s m args below meth c A H locs ls F hw hl
  obtain ⟨⟨hx, hb, hml, hown, hts⟩, hr, hlocks, hmn⟩ := id F
  refine lv_aload_n hx hb d_D_init_80 rfl (lv_at hl 0 rfl) ?_
  refine lv_bipush (v := 24) hx hb d_D_init_81 (by decide) ?_
  refine xr_newai hx hb rfl (hts _ (xm w_51)) hw h1 hle_u_56 d_D_init_83 (fun H hw => ?_)
  refine xr_putF (ty := .array .int) hx hb hts (xmu uws_D) tyc_D tyc_D_ok nmc_D hown hw h2 rfl (by decide) (hts _ (xm w_196)) (fun _ h9 => h9) rfl hmn rfl (by decide +kernel) rfl rfl d_D_init_85 (fun H locs hw => ?_)
  refine lv_aload_n hx hb d_D_init_88 rfl (lv_at hl 0 rfl) ?_
  refine lv_iconst (v := 0) hx hb d_D_init_89 (by decide) ?_
  refine xr_put (ty := .int) hx hb hts (xmu uws_D) tyc_D tyc_D_ok nmc_D hown hw h3 rfl (by decide) (hts _ (xm w_197)) (fun _ h9 => h9) rfl (by decide +kernel) rfl rfl d_D_init_90 (fun H locs hw => ?_)
  refine lv_aload_n hx hb d_D_init_93 rfl (lv_at hl 0 rfl) ?_
  refine lv_bipush (v := 10) hx hb d_D_init_94 (by decide) ?_
  refine xr_newai hx hb rfl (hts _ (xm w_51)) hw h4 hle_u_60 d_D_init_96 (fun H hw => ?_)
  refine xr_putF (ty := .array .int) hx hb hts (xmu uws_D) tyc_D tyc_D_ok nmc_D hown hw h5 rfl (by decide) (hts _ (xm w_198)) (fun _ h9 => h9) rfl hmn rfl (by decide +kernel) rfl rfl d_D_init_98 (fun H locs hw => ?_)
  refine lv_aload_n hx hb d_D_init_101 rfl (lv_at hl 0 rfl) ?_
  refine lv_iconst (v := 1) hx hb d_D_init_102 (by decide) ?_
  refine xr_put (ty := .boolean) hx hb hts (xmu uws_D) tyc_D tyc_D_ok nmc_D hown hw h6 rfl (by decide) (hts _ (xm w_199)) (fun _ h9 => h9) rfl (by decide +kernel) (by rcases h7 with e9 | e9 <;> rw [e9] <;> rfl) (by rcases h7 with e9 | e9 <;> rw [e9] <;> rfl) d_D_init_103 (fun H locs hw => ?_)
  refine lv_aload_n hx hb d_D_init_106 rfl (lv_at hl 0 rfl) ?_
  refine lv_bipush (v := 10) hx hb d_D_init_107 (by decide) ?_
  refine xr_newai hx hb rfl (hts _ (xm w_51)) hw h8 hle_u_64 d_D_init_109 (fun H hw => ?_)
  refine xr_putF (ty := .array .int) hx hb hts (xmu uws_D) tyc_D tyc_D_ok nmc_D hown hw h9 rfl (by decide) (hts _ (xm w_200)) (fun _ h9 => h9) rfl hmn rfl (by decide +kernel) rfl rfl d_D_init_111 (fun H locs hw => ?_)
  exact xr_vret F rfl hw d_D_init_114
set_option maxRecDepth 100000 in
set_option maxHeartbeats 4000000 in
theorem c_D_init (l : Launch) (Z : XZ) (x0 : Nat) (x1 : Nat) (u : PS) (K : PS → Prop) (k : p_D_init x0 x1 u K) : ∃ (rv : Option Value) (u1 : PS), (kV K) rv u1 ∧ XMet l Z i_D_init [.ref x0, .ref x1] u rv u1 := by
  refine x_met (by decide) rfl (Nat.le_of_ble_eq_true rfl) ?_
  show XN l Z i_D_init u (kV K) u 0 [(0, .ref x0), (1, .ref x1)] []
  unfold p_D_init at k
  obtain ⟨u_35, h1, k⟩ := k
  obtain ⟨a_36, u_37, h2, k⟩ := k
  obtain ⟨_, u_38, ⟨rfl, k⟩, hM3⟩ := c_N_init l Z a_36 u_37 _ k
  obtain ⟨u_39, h4, k⟩ := k
  obtain ⟨a_40, u_41, h5, k⟩ := k
  obtain ⟨z_42, h6, k⟩ := k
  obtain ⟨_, u_43, ⟨rfl, k⟩, hM7⟩ := c_G_init l Z a_40 x1 z_42 u_41 _ k
  obtain ⟨u_44, h8, k⟩ := k
  obtain ⟨a_45, u_46, h9, k⟩ := k
  obtain ⟨z_47, h10, k⟩ := k
  obtain ⟨_, u_48, ⟨rfl, k⟩, hM11⟩ := c_T_init l Z a_45 z_47 u_46 _ k
  obtain ⟨u_49, h12, k⟩ := k
  obtain ⟨a_50, u_51, h13, k⟩ := k
  obtain ⟨u_52, h14, k⟩ := k
  obtain ⟨n15, k⟩ := k
  have hx17 : ∀ (v16 : PS), (p_D_init_J80 K x0 v16) → XN l Z i_D_init u (kV K) v16 80 [(0, .ref x0)] [] := by
    intro v16 k
    obtain ⟨rv, v9, hK, hle_v16, w9⟩ := t_D_init_J80 l Z u x0 v16 k
    refine ⟨rv, v9, hK, hle_v16, ?_⟩
    intro p e s m args below meth c A H locs ls F hw hl
    obtain ⟨⟨hx, hb, hml, hown, hts⟩, hr, hlocks, hmn⟩ := id F
    exact w9 p e s m args below meth c A H locs ls F hw (lv_sub hl [0] rfl)
  obtain ⟨rv, v9, hK, hle_u_52, w9⟩ := t_D_init_L61 l Z u x0 hx17 n15 (0 : Int32) u_52 k
  have hle_u_51 : x_le u_51 v9 := (h14.le).tr hle_u_52
  have hle_u_49 : x_le u_49 v9 := (h13.le).tr hle_u_51
  have hle_u_48 : x_le u_48 v9 := (h12.le).tr hle_u_49
  have hle_u_46 : x_le u_46 v9 := (hM11.1).tr hle_u_48
  have hle_u_44 : x_le u_44 v9 := (h9.le).tr hle_u_46
  have hle_u_43 : x_le u_43 v9 := (h8.le).tr hle_u_44
  have hle_u_41 : x_le u_41 v9 := (hM7.1).tr hle_u_43
  have hle_u_39 : x_le u_39 v9 := (h5.le).tr hle_u_41
  have hle_u_38 : x_le u_38 v9 := (h4.le).tr hle_u_39
  have hle_u_37 : x_le u_37 v9 := (hM3.1).tr hle_u_38
  have hle_u_35 : x_le u_35 v9 := (h2.le).tr hle_u_37
  have hle_u : x_le u v9 := (h1.le).tr hle_u_35
  refine ⟨rv, v9, hK, hle_u, ?_⟩
  intro p e s m args below meth c A H locs ls F hw hl
  obtain ⟨⟨hx, hb, hml, hown, hts⟩, hr, hlocks, hmn⟩ := id F
  refine lv_aload_n hx hb d_D_init_0 rfl (lv_at hl 0 rfl) ?_
  refine W.objInit hx hb hown (hts _ (xm w_57)) (hts _ (xm w_23)) (hts _ (xm w_24)) rfl (by rw [hml]; exact hl.1) rfl d_D_init_1 (Nat.le_of_ble_eq_true rfl) (Nat.le_of_ble_eq_true rfl) ?_
  refine W.eq (g2 := F0 m 4 ls []) rfl ?_
  refine lv_aload_n hx hb d_D_init_4 rfl (lv_at hl 0 rfl) ?_
  refine lv_aload_n hx hb d_D_init_5 rfl (lv_at hl 1 rfl) ?_
  refine xr_putF (ty := .object "DiagramHouse$Functions") hx hb hts (xmu uws_D) tyc_D tyc_D_ok nmc_D hown hw h1 rfl (by decide) (hts _ (xm w_191)) (fun _ h9 => h9) rfl hmn rfl (by decide +kernel) rfl rfl d_D_init_6 (fun H locs hw => ?_)
  refine lv_aload_n hx hb d_D_init_9 rfl (lv_at hl 0 rfl) ?_
  refine xr_new hx hb hts (xmu uws_N) tyc_N tyc_N_ok hown (hts _ (xm w_58)) (hts _ (xm w_59)) (hts _ (xm w_4)) hw rfl rfl bl_N h2 hle_u_37 d_D_init_10 (fun H hw => ?_)
  refine lv_dup hx hb d_D_init_13 rfl ?_
  refine xr_cI (As := []) (rest := [.ref a_36, .ref x0]) ⟨hx, hb, hml, hown, hts⟩ hw hM3 hle_u_38 (fun _ _ => ⟨callB_of 0 hts (xgood w_62) rfl rfl rfl (hts _ (xm w_4)) (hts _ (xm w_60)) ⟨by decide, by decide, by decide +kernel⟩ ⟨Nat.le_of_ble_eq_true rfl, Nat.le_of_ble_eq_true rfl⟩, rfl, (hts _ (xm w_61))⟩) rfl hl.1 rfl (Nat.le_of_ble_eq_true rfl) d_D_init_14 (fun H locs hw => ?_)
  refine xr_putF (ty := .object "DiagramHouse$Nodes") hx hb hts (xmu uws_D) tyc_D tyc_D_ok nmc_D hown hw h4 rfl (by decide) (hts _ (xm w_192)) (fun _ h9 => h9) rfl hmn rfl (by decide +kernel) rfl rfl d_D_init_17 (fun H locs hw => ?_)
  refine lv_aload_n hx hb d_D_init_20 rfl (lv_at hl 0 rfl) ?_
  refine xr_new hx hb hts (xmu uws_G) tyc_G tyc_G_ok hown (hts _ (xm w_117)) (hts _ (xm w_118)) (hts _ (xm w_6)) hw rfl rfl bl_G h5 hle_u_41 d_D_init_21 (fun H hw => ?_)
  refine lv_dup hx hb d_D_init_24 rfl ?_
  refine lv_aload_n hx hb d_D_init_25 rfl (lv_at hl 1 rfl) ?_
  refine lv_aload_n hx hb d_D_init_26 rfl (lv_at hl 0 rfl) ?_
  refine xr_get hx hb hts (xmu uws_D) hown hw h6 rfl (by decide) (hts _ (xm w_192)) (fun _ h9 => h9) d_D_init_27 ?_
  refine xr_cI (As := [.ref x1, .ref z_42]) (rest := [.ref a_40, .ref x0]) ⟨hx, hb, hml, hown, hts⟩ hw hM7 hle_u_43 (fun _ _ => ⟨callB_of 2 hts (xgood w_121) rfl rfl rfl (hts _ (xm w_6)) (hts _ (xm w_119)) ⟨by decide, by decide, by decide +kernel⟩ ⟨Nat.le_of_ble_eq_true rfl, Nat.le_of_ble_eq_true rfl⟩, rfl, (hts _ (xm w_120))⟩) rfl hl.1 rfl (Nat.le_of_ble_eq_true rfl) d_D_init_30 (fun H locs hw => ?_)
  refine xr_putF (ty := .object "DiagramHouse$Drawing") hx hb hts (xmu uws_D) tyc_D tyc_D_ok nmc_D hown hw h8 rfl (by decide) (hts _ (xm w_193)) (fun _ h9 => h9) rfl hmn rfl (by decide +kernel) rfl rfl d_D_init_33 (fun H locs hw => ?_)
  refine lv_aload_n hx hb d_D_init_36 rfl (lv_at hl 0 rfl) ?_
  refine xr_new hx hb hts (xmu uws_T) tyc_T tyc_T_ok hown (hts _ (xm w_154)) (hts _ (xm w_155)) (hts _ (xm w_7)) hw rfl rfl bl_T h9 hle_u_46 d_D_init_37 (fun H hw => ?_)
  refine lv_dup hx hb d_D_init_40 rfl ?_
  refine lv_aload_n hx hb d_D_init_41 rfl (lv_at hl 0 rfl) ?_
  refine xr_get hx hb hts (xmu uws_D) hown hw h10 rfl (by decide) (hts _ (xm w_192)) (fun _ h9 => h9) d_D_init_42 ?_
  refine xr_cI (As := [.ref z_47]) (rest := [.ref a_45, .ref x0]) ⟨hx, hb, hml, hown, hts⟩ hw hM11 hle_u_48 (fun _ _ => ⟨callB_of 1 hts (xgood w_158) rfl rfl rfl (hts _ (xm w_7)) (hts _ (xm w_156)) ⟨by decide, by decide, by decide +kernel⟩ ⟨Nat.le_of_ble_eq_true rfl, Nat.le_of_ble_eq_true rfl⟩, rfl, (hts _ (xm w_157))⟩) rfl hl.1 rfl (Nat.le_of_ble_eq_true rfl) d_D_init_45 (fun H locs hw => ?_)
  refine xr_putF (ty := .object "DiagramHouse$Trial") hx hb hts (xmu uws_D) tyc_D tyc_D_ok nmc_D hown hw h12 rfl (by decide) (hts _ (xm w_194)) (fun _ h9 => h9) rfl hmn rfl (by decide +kernel) rfl rfl d_D_init_48 (fun H locs hw => ?_)
  refine lv_aload_n hx hb d_D_init_51 rfl (lv_at hl 0 rfl) ?_
  refine lv_bipush (v := 10) hx hb d_D_init_52 (by decide) ?_
  refine xr_newai hx hb rfl (hts _ (xm w_51)) hw h13 hle_u_51 d_D_init_54 (fun H hw => ?_)
  refine xr_putF (ty := .array .int) hx hb hts (xmu uws_D) tyc_D tyc_D_ok nmc_D hown hw h14 rfl (by decide) (hts _ (xm w_195)) (fun _ h9 => h9) rfl hmn rfl (by decide +kernel) rfl rfl d_D_init_56 (fun H locs hw => ?_)
  refine lv_iconst (v := 0) hx hb d_D_init_59 (by decide) ?_
  refine lv_istore_n (lv' := [(2, .int 0), (0, .ref x0), (1, .ref x1)]) hx hb d_D_init_60 rfl hl (by decide) rfl (fun ls hl => ?_)
  exact w9 p e s m args below meth c A H locs ls F hw (lv_sub hl [1, 0] rfl)
set_option maxRecDepth 100000 in
set_option maxHeartbeats 4000000 in
theorem c_D_functionChanged (l : Launch) (Z : XZ) (x0 : Nat) (x1 : Int32) (u : PS) (K : PS → Prop) (k : p_D_functionChanged x0 x1 u K) : ∃ (rv : Option Value) (u1 : PS), (kV K) rv u1 ∧ XMet l Z i_D_functionChanged [.ref x0, .int x1] u rv u1 := by
  refine x_met (by decide) rfl (Nat.le_of_ble_eq_true rfl) ?_
  show XN l Z i_D_functionChanged u (kV K) u 0 [(0, .ref x0), (1, .int x1)] []
  unfold p_D_functionChanged at k
  obtain ⟨z_4, h1, k⟩ := k
  obtain ⟨u_5, h2, k⟩ := k
  obtain ⟨h4, k⟩ := k
  obtain ⟨u_6, h3, k⟩ := k
  have hle_u_6 : x_le u_6 u_6 := x_le.rf u_6
  have hle_u_5 : x_le u_5 u_6 := (h3.le).tr hle_u_6
  have hle_u : x_le u u_6 := (h2.le).tr hle_u_5
  refine ⟨none, u_6, ⟨rfl, k⟩, hle_u, ?_⟩
  intro p e s m args below meth c A H locs ls F hw hl
  obtain ⟨⟨hx, hb, hml, hown, hts⟩, hr, hlocks, hmn⟩ := id F
  refine lv_aload_n hx hb d_D_functionChanged_0 rfl (lv_at hl 0 rfl) ?_
  refine lv_dup hx hb d_D_functionChanged_1 rfl ?_
  refine xr_get hx hb hts (xmu uws_D) hown hw h1 rfl (by decide) (hts _ (xm w_197)) (fun _ h9 => h9) d_D_functionChanged_2 ?_
  refine lv_iconst (v := 1) hx hb d_D_functionChanged_5 (by decide) ?_
  refine lv_iload_n hx hb d_D_functionChanged_6 rfl (lv_at hl 1 rfl) ?_
  refine lv_ishl hx hb d_D_functionChanged_7 ?_
  refine lv_ior hx hb d_D_functionChanged_8 ?_
  refine xr_put (ty := .int) hx hb hts (xmu uws_D) tyc_D tyc_D_ok nmc_D hown hw h2 rfl (by decide) (hts _ (xm w_197)) (fun _ h9 => h9) rfl (by decide +kernel) rfl rfl d_D_functionChanged_9 (fun H locs hw => ?_)
  refine lv_aload_n hx hb d_D_functionChanged_12 rfl (lv_at hl 0 rfl) ?_
  refine lv_iconst (v := 0) hx hb d_D_functionChanged_13 (by decide) ?_
  refine xr_put (ty := .boolean) hx hb hts (xmu uws_D) tyc_D tyc_D_ok nmc_D hown hw h3 rfl (by decide) (hts _ (xm w_199)) (fun _ h9 => h9) rfl (by decide +kernel) (by rcases h4 with e9 | e9 <;> rw [e9] <;> rfl) (by rcases h4 with e9 | e9 <;> rw [e9] <;> rfl) d_D_functionChanged_14 (fun H locs hw => ?_)
  exact xr_vret F rfl hw d_D_functionChanged_17
set_option maxRecDepth 100000 in
set_option maxHeartbeats 4000000 in
theorem t_D_draw_L7 (l : Launch) (Z : XZ) (u0 : PS) {Kv : Option Value → PS → Prop} {E69 : PS → Prop} (x0 : Nat) (x1 : Int32) (hE69 : ∀ (v : PS), E69 v → XN l Z i_D_draw u0 Kv v 69 [(0, .ref x0), (1, .int x1)] []) : ∀ (n : Nat) (x2 : Int32) (u : PS), p_D_draw_L7 x0 x1 E69 n x2 u → XN l Z i_D_draw u0 Kv u 7 [(0, .ref x0), (1, .int x1), (2, .int x2)] [] := by
  intro n
  induction n with
  | zero => intro x2 u k; exact False.elim k
  | succ n ih =>
    intro x2 u k
    rw [p_D_draw_L7] at k
    by_cases hc1 : x2 = 0
    · have k := k.1 hc1
      obtain ⟨rv, v9, hK, hle_u, w9⟩ := hE69 u k
      refine ⟨rv, v9, hK, hle_u, ?_⟩
      intro p e s m args below meth c A H locs ls F hw hl
      obtain ⟨⟨hx, hb, hml, hown, hts⟩, hr, hlocks, hmn⟩ := id F
      refine lv_iload_n hx hb d_D_draw_7 rfl (lv_at hl 2 rfl) ?_
      refine lv_if_eq (tgt := 69) hx hb d_D_draw_8 (by decide) (fun _ => ?_) (fun c9 => absurd hc1 c9)
      exact w9 p e s m args below meth c A H locs ls F hw (lv_sub hl [0, 1] rfl)
    · have k := k.2 hc1
      obtain ⟨_, u_23, ⟨r_24, rfl, k⟩, hM2⟩ := c_JI_numberOfTrailingZeros l Z x2 u _ k
      obtain ⟨z_25, h3, k⟩ := k
      obtain ⟨z_26, h4, k⟩ := k
      obtain ⟨h6, k⟩ := k
      obtain ⟨_, u_27, ⟨r_28, rfl, k⟩, hM5⟩ := c_G_rootOf l Z z_25 r_24 z_26 u_23 _ k
      obtain ⟨z_29, h7, k⟩ := k
      obtain ⟨h9, k⟩ := k
      obtain ⟨_, u_30, ⟨rfl, k⟩, hM8⟩ := c_N_lead l Z z_29 r_28 u_27 _ k
      obtain ⟨z_31, h10, k⟩ := k
      obtain ⟨z_32, h11, k⟩ := k
      obtain ⟨z_33, h12, k⟩ := k
      obtain ⟨h14, k⟩ := k
      obtain ⟨_, u_34, ⟨rfl, k⟩, hM13⟩ := c_N_leadNoMore l Z z_31 z_33 u_30 _ k
      obtain ⟨z_35, h15, k⟩ := k
      obtain ⟨u_36, h16, k⟩ := k
      obtain ⟨y17, ey17⟩ : ∃ y9 : Int32, y9 = (x2 &&& (x2 - (1 : Int32))) := ⟨_, rfl⟩
      have k := k y17 ey17
      obtain ⟨rv, v9, hK, hle_u_36, w9⟩ := ih y17 u_36 k
      have hle_u_34 : x_le u_34 v9 := (h16.le).tr hle_u_36
      have hle_u_30 : x_le u_30 v9 := (hM13.1).tr hle_u_34
      have hle_u_27 : x_le u_27 v9 := (hM8.1).tr hle_u_30
      have hle_u_23 : x_le u_23 v9 := (hM5.1).tr hle_u_27
      have hle_u : x_le u v9 := (hM2.1).tr hle_u_23
      refine ⟨rv, v9, hK, hle_u, ?_⟩
      intro p e s m args below meth c A H locs ls F hw hl
      obtain ⟨⟨hx, hb, hml, hown, hts⟩, hr, hlocks, hmn⟩ := id F
      refine lv_iload_n hx hb d_D_draw_7 rfl (lv_at hl 2 rfl) ?_
      refine lv_if_eq (tgt := 69) hx hb d_D_draw_8 (by decide) (fun c9 => absurd c9 hc1) (fun _ => ?_)
      refine lv_iload_n hx hb d_D_draw_11 rfl (lv_at hl 2 rfl) ?_
      refine xr_cS (As := [.int x2]) (rest := []) ⟨hx, hb, hml, hown, hts⟩ hw hM2 hle_u_23 (fun _ _ => ⟨callB_of 1 hts (xgood w_68) rfl rfl rfl (hts _ (xm w_5)) (hts _ (xm w_247)) ⟨by decide, by decide, by decide +kernel⟩ ⟨Nat.le_of_ble_eq_true rfl, Nat.le_of_ble_eq_true rfl⟩, (hts _ (xm w_67))⟩) rfl hl.1 rfl (Nat.le_of_ble_eq_true rfl) d_D_draw_12 (fun H locs hw => ?_)
      refine W.eq (g2 := F0 m 15 ls [.int r_24]) rfl ?_
      refine lv_istore_n (lv' := [(3, .int r_24), (0, .ref x0), (1, .int x1), (2, .int x2)]) hx hb d_D_draw_15 rfl hl (by decide) rfl (fun ls hl => ?_)
      refine lv_aload_n hx hb d_D_draw_16 rfl (lv_at hl 1 rfl) ?_
      refine xr_get hx hb hts (xmu uws_D) hown hw h3 rfl (by decide) (hts _ (xm w_193)) (fun _ h9 => h9) d_D_draw_17 ?_
      refine lv_iload_n hx hb d_D_draw_20 rfl (lv_at hl 0 rfl) ?_
      refine lv_aload_n hx hb d_D_draw_21 rfl (lv_at hl 1 rfl) ?_
      refine xr_get hx hb hts (xmu uws_D) hown hw h4 rfl (by decide) (hts _ (xm w_195)) (fun _ h9 => h9) d_D_draw_22 ?_
      refine xr_cV (As := [.int r_24, .ref z_26]) (rest := []) ⟨hx, hb, hml, hown, hts⟩ hw hM5 hle_u_27 (fun _ _ => ⟨callB_of 2 hts (xgood w_251) rfl rfl rfl (hts _ (xm w_6)) (hts _ (xm w_248)) ⟨by decide, by decide, by decide +kernel⟩ ⟨Nat.le_of_ble_eq_true rfl, Nat.le_of_ble_eq_true rfl⟩, (hts _ (xm w_249)), (hts _ (xm w_250))⟩) (qc := (R_G, F_G, 10)) rfl rfl h6 rfl hl.1 rfl (Nat.le_of_ble_eq_true rfl) d_D_draw_25 (fun H locs hw => ?_)
      refine W.eq (g2 := F0 m 28 ls [.int r_28]) rfl ?_
      refine lv_istore (lv' := [(4, .int r_28), (3, .int r_24), (0, .ref x0), (1, .int x1), (2, .int x2)]) hx hb d_D_draw_28 hl (by decide) rfl (fun ls hl => ?_)
      refine lv_aload_n hx hb d_D_draw_30 rfl (lv_at hl 2 rfl) ?_
      refine xr_get hx hb hts (xmu uws_D) hown hw h7 rfl (by decide) (hts _ (xm w_192)) (fun _ h9 => h9) d_D_draw_31 ?_
      refine lv_iload hx hb d_D_draw_34 (lv_at hl 0 rfl) ?_
      refine xr_cV (As := [.int r_28]) (rest := []) ⟨hx, hb, hml, hown, hts⟩ hw hM8 hle_u_30 (fun _ _ => ⟨callB_of 1 hts (xgood w_371) rfl rfl rfl (hts _ (xm w_4)) (hts _ (xm w_368)) ⟨by decide, by decide, by decide +kernel⟩ ⟨Nat.le_of_ble_eq_true rfl, Nat.le_of_ble_eq_true rfl⟩, (hts _ (xm w_369)), (hts _ (xm w_370))⟩) (qc := (R_N, F_N, 13)) rfl rfl h9 rfl hl.1 rfl (Nat.le_of_ble_eq_true rfl) d_D_draw_36 (fun H locs hw => ?_)
      refine W.eq (g2 := F0 m 39 ls []) rfl ?_
      refine lv_aload_n hx hb d_D_draw_39 rfl (lv_at hl 2 rfl) ?_
      refine xr_get hx hb hts (xmu uws_D) hown hw h10 rfl (by decide) (hts _ (xm w_192)) (fun _ h9 => h9) d_D_draw_40 ?_
      refine lv_aload_n hx hb d_D_draw_43 rfl (lv_at hl 2 rfl) ?_
      refine xr_get hx hb hts (xmu uws_D) hown hw h11 rfl (by decide) (hts _ (xm w_196)) (fun _ h9 => h9) d_D_draw_44 ?_
      refine lv_iload_n hx hb d_D_draw_47 rfl (lv_at hl 1 rfl) ?_
      refine xr_iald hx hb hw h12 d_D_draw_48 ?_
      refine xr_cV (As := [.int z_33]) (rest := []) ⟨hx, hb, hml, hown, hts⟩ hw hM13 hle_u_34 (fun _ _ => ⟨callB_of 1 hts (xgood w_375) rfl rfl rfl (hts _ (xm w_4)) (hts _ (xm w_372)) ⟨by decide, by decide, by decide +kernel⟩ ⟨Nat.le_of_ble_eq_true rfl, Nat.le_of_ble_eq_true rfl⟩, (hts _ (xm w_373)), (hts _ (xm w_374))⟩) (qc := (R_N, F_N, 13)) rfl rfl h14 rfl hl.1 rfl (Nat.le_of_ble_eq_true rfl) d_D_draw_49 (fun H locs hw => ?_)
      refine W.eq (g2 := F0 m 52 ls []) rfl ?_
      refine lv_aload_n hx hb d_D_draw_52 rfl (lv_at hl 2 rfl) ?_
      refine xr_get hx hb hts (xmu uws_D) hown hw h15 rfl (by decide) (hts _ (xm w_196)) (fun _ h9 => h9) d_D_draw_53 ?_
      refine lv_iload_n hx hb d_D_draw_56 rfl (lv_at hl 1 rfl) ?_
      refine lv_iload hx hb d_D_draw_57 (lv_at hl 0 rfl) ?_
      refine xr_iast hx hb hw h16 d_D_draw_59 (fun H locs hw => ?_)
      refine lv_iload_n hx hb d_D_draw_60 rfl (lv_at hl 4 rfl) ?_
      refine lv_iload_n hx hb d_D_draw_61 rfl (lv_at hl 4 rfl) ?_
      refine lv_iconst (v := 1) hx hb d_D_draw_62 (by decide) ?_
      refine lv_isub hx hb d_D_draw_63 ?_
      refine lv_iand hx hb d_D_draw_64 ?_
      refine lv_istore_n (lv' := [(2, .int y17), (4, .int r_28), (3, .int r_24), (0, .ref x0), (1, .int x1)]) hx hb d_D_draw_65 rfl hl (by decide) (by subst ey17; rfl) (fun ls hl => ?_)
      refine lv_goto (tgt := 7) hx hb d_D_draw_66 (by decide) ?_
      exact w9 p e s m args below meth c A H locs ls F hw (lv_sub hl [3, 4, 0] rfl)
set_option maxRecDepth 100000 in
set_option maxHeartbeats 4000000 in
theorem t_D_draw_J69 (l : Launch) (Z : XZ) (u0 : PS) {K : PS → Prop} (x0 : Nat) (x1 : Int32) (u : PS) (k : (p_D_draw_J69 K x0 x1 u)) : XN l Z i_D_draw u0 (kV K) u 69 [(0, .ref x0), (1, .int x1)] [] := by
  unfold p_D_draw_J69 at k
  obtain ⟨z_37, h1, k⟩ := k
  obtain ⟨u_38, h2, k⟩ := k
  have hle_u_38 : x_le u_38 u_38 := x_le.rf u_38
  have hle_u : x_le u u_38 := (h2.le).tr hle_u_38
  refine ⟨none, u_38, ⟨rfl, k⟩, hle_u, ?_⟩
  intro p e s m args below meth c A H locs ls F hw hl
  obtain ⟨⟨hx, hb, hml, hown, hts⟩, hr, hlocks, hmn⟩ := id F
  refine lv_aload_n hx hb d_D_draw_69 rfl (lv_at hl 0 rfl) ?_
  refine lv_dup hx hb d_D_draw_70 rfl ?_
  refine xr_get hx hb hts (xmu uws_D) hown hw h1 rfl (by decide) (hts _ (xm w_197)) (fun _ h9 => h9) d_D_draw_71 ?_
  refine lv_iload_n hx hb d_D_draw_74 rfl (lv_at hl 1 rfl) ?_
  refine lv_iconst (v := (-1)) hx hb d_D_draw_75 (by decide) ?_
  refine lv_ixor hx hb d_D_draw_76 ?_
  refine lv_iand hx hb d_D_draw_77 ?_
  refine xr_put (ty := .int) hx hb hts (xmu uws_D) tyc_D tyc_D_ok nmc_D hown hw h2 rfl (by decide) (hts _ (xm w_197)) (fun _ h9 => h9) rfl (by decide +kernel) rfl rfl d_D_draw_78 (fun H locs hw => ?_)
  exact xr_vret F rfl hw d_D_draw_81
set_option maxRecDepth 100000 in
set_option maxHeartbeats 4000000 in
theorem c_D_draw (l : Launch) (Z : XZ) (x0 : Nat) (x1 : Int32) (u : PS) (K : PS → Prop) (k : p_D_draw x0 x1 u K) : ∃ (rv : Option Value) (u1 : PS), (kV K) rv u1 ∧ XMet l Z i_D_draw [.ref x0, .int x1] u rv u1 := by
  refine x_met (by decide) rfl (Nat.le_of_ble_eq_true rfl) ?_
  show XN l Z i_D_draw u (kV K) u 0 [(0, .ref x0), (1, .int x1)] []
  unfold p_D_draw at k
  obtain ⟨z_22, h1, k⟩ := k
  obtain ⟨y2, ey2⟩ : ∃ y9 : Int32, y9 = (z_22 &&& x1) := ⟨_, rfl⟩
  have k := k y2 ey2
  obtain ⟨n3, k⟩ := k
  have hx5 : ∀ (v4 : PS), (p_D_draw_J69 K x0 x1 v4) → XN l Z i_D_draw u (kV K) v4 69 [(0, .ref x0), (1, .int x1)] [] := by
    intro v4 k
    obtain ⟨rv, v9, hK, hle_v4, w9⟩ := t_D_draw_J69 l Z u x0 x1 v4 k
    refine ⟨rv, v9, hK, hle_v4, ?_⟩
    intro p e s m args below meth c A H locs ls F hw hl
    obtain ⟨⟨hx, hb, hml, hown, hts⟩, hr, hlocks, hmn⟩ := id F
    exact w9 p e s m args below meth c A H locs ls F hw (lv_sub hl [0, 1] rfl)
  obtain ⟨rv, v9, hK, hle_u, w9⟩ := t_D_draw_L7 l Z u x0 x1 hx5 n3 y2 u k
  refine ⟨rv, v9, hK, hle_u, ?_⟩
  intro p e s m args below meth c A H locs ls F hw hl
  obtain ⟨⟨hx, hb, hml, hown, hts⟩, hr, hlocks, hmn⟩ := id F
  refine lv_aload_n hx hb d_D_draw_0 rfl (lv_at hl 0 rfl) ?_
  refine xr_get hx hb hts (xmu uws_D) hown hw h1 rfl (by decide) (hts _ (xm w_197)) (fun _ h9 => h9) d_D_draw_1 ?_
  refine lv_iload_n hx hb d_D_draw_4 rfl (lv_at hl 1 rfl) ?_
  refine lv_iand hx hb d_D_draw_5 ?_
  refine lv_istore_n (lv' := [(2, .int y2), (0, .ref x0), (1, .int x1)]) hx hb d_D_draw_6 rfl hl (by decide) (by subst ey2; rfl) (fun ls hl => ?_)
  exact w9 p e s m args below meth c A H locs ls F hw (lv_sub hl [1, 2, 0] rfl)
set_option maxRecDepth 100000 in
set_option maxHeartbeats 4000000 in
theorem c_D_sizeOf (l : Launch) (Z : XZ) (x0 : Nat) (x1 : Int32) (u : PS) (K : Int32 → PS → Prop) (k : p_D_sizeOf x0 x1 u K) : ∃ (rv : Option Value) (u1 : PS), (kI K) rv u1 ∧ XMet l Z i_D_sizeOf [.ref x0, .int x1] u rv u1 := by
  refine x_met (by decide) rfl (Nat.le_of_ble_eq_true rfl) ?_
  show XN l Z i_D_sizeOf u (kI K) u 0 [(0, .ref x0), (1, .int x1)] []
  unfold p_D_sizeOf at k
  obtain ⟨z_6, h1, k⟩ := k
  obtain ⟨z_7, h2, k⟩ := k
  obtain ⟨z_8, h3, k⟩ := k
  obtain ⟨h5, k⟩ := k
  obtain ⟨_, u_9, ⟨r_10, rfl, k⟩, hM4⟩ := c_N_sizeFrom l Z z_6 z_8 u _ k
  have hle_u_9 : x_le u_9 u_9 := x_le.rf u_9
  have hle_u : x_le u u_9 := (hM4.1).tr hle_u_9
  refine ⟨some (.int r_10), u_9, ⟨r_10, rfl, k⟩, hle_u, ?_⟩
  intro p e s m args below meth c A H locs ls F hw hl
  obtain ⟨⟨hx, hb, hml, hown, hts⟩, hr, hlocks, hmn⟩ := id F
  refine lv_aload_n hx hb d_D_sizeOf_0 rfl (lv_at hl 0 rfl) ?_
  refine xr_get hx hb hts (xmu uws_D) hown hw h1 rfl (by decide) (hts _ (xm w_192)) (fun _ h9 => h9) d_D_sizeOf_1 ?_
  refine lv_aload_n hx hb d_D_sizeOf_4 rfl (lv_at hl 0 rfl) ?_
  refine xr_get hx hb hts (xmu uws_D) hown hw h2 rfl (by decide) (hts _ (xm w_196)) (fun _ h9 => h9) d_D_sizeOf_5 ?_
  refine lv_iload_n hx hb d_D_sizeOf_8 rfl (lv_at hl 1 rfl) ?_
  refine xr_iald hx hb hw h3 d_D_sizeOf_9 ?_
  refine xr_cV (As := [.int z_8]) (rest := []) ⟨hx, hb, hml, hown, hts⟩ hw hM4 hle_u_9 (fun _ _ => ⟨callB_of 1 hts (xgood w_769) rfl rfl rfl (hts _ (xm w_4)) (hts _ (xm w_766)) ⟨by decide, by decide, by decide +kernel⟩ ⟨Nat.le_of_ble_eq_true rfl, Nat.le_of_ble_eq_true rfl⟩, (hts _ (xm w_767)), (hts _ (xm w_768))⟩) (qc := (R_N, F_N, 13)) rfl rfl h5 rfl hl.1 rfl (Nat.le_of_ble_eq_true rfl) d_D_sizeOf_10 (fun H locs hw => ?_)
  refine W.eq (g2 := F0 m 13 ls [.int r_10]) rfl ?_
  exact xr_iret F rfl hw d_D_sizeOf_13
set_option maxRecDepth 100000 in
set_option maxHeartbeats 4000000 in
theorem c_D_questionOf (l : Launch) (Z : XZ) (x0 : Nat) (x1 : Int32) (x2 : Int32) (x3 : Int32) (u : PS) (K : Int32 → PS → Prop) (k : p_D_questionOf x0 x1 x2 x3 u K) : ∃ (rv : Option Value) (u1 : PS), (kI K) rv u1 ∧ XMet l Z i_D_questionOf [.ref x0, .int x1, .int x2, .int x3] u rv u1 := by
  refine x_met (by decide) rfl (Nat.le_of_ble_eq_true rfl) ?_
  show XN l Z i_D_questionOf u (kI K) u 0 [(0, .ref x0), (1, .int x1), (2, .int x2), (3, .int x3)] []
  unfold p_D_questionOf at k
  obtain ⟨z_6, h1, k⟩ := k
  obtain ⟨z_7, h2, k⟩ := k
  obtain ⟨z_8, h3, k⟩ := k
  obtain ⟨h5, k⟩ := k
  obtain ⟨_, u_9, ⟨r_10, rfl, k⟩, hM4⟩ := c_N_questionFrom l Z z_6 z_8 x2 x3 u _ k
  have hle_u_9 : x_le u_9 u_9 := x_le.rf u_9
  have hle_u : x_le u u_9 := (hM4.1).tr hle_u_9
  refine ⟨some (.int r_10), u_9, ⟨r_10, rfl, k⟩, hle_u, ?_⟩
  intro p e s m args below meth c A H locs ls F hw hl
  obtain ⟨⟨hx, hb, hml, hown, hts⟩, hr, hlocks, hmn⟩ := id F
  refine lv_aload_n hx hb d_D_questionOf_0 rfl (lv_at hl 0 rfl) ?_
  refine xr_get hx hb hts (xmu uws_D) hown hw h1 rfl (by decide) (hts _ (xm w_192)) (fun _ h9 => h9) d_D_questionOf_1 ?_
  refine lv_aload_n hx hb d_D_questionOf_4 rfl (lv_at hl 0 rfl) ?_
  refine xr_get hx hb hts (xmu uws_D) hown hw h2 rfl (by decide) (hts _ (xm w_196)) (fun _ h9 => h9) d_D_questionOf_5 ?_
  refine lv_iload_n hx hb d_D_questionOf_8 rfl (lv_at hl 1 rfl) ?_
  refine xr_iald hx hb hw h3 d_D_questionOf_9 ?_
  refine lv_iload_n hx hb d_D_questionOf_10 rfl (lv_at hl 2 rfl) ?_
  refine lv_iload_n hx hb d_D_questionOf_11 rfl (lv_at hl 3 rfl) ?_
  refine xr_cV (As := [.int z_8, .int x2, .int x3]) (rest := []) ⟨hx, hb, hml, hown, hts⟩ hw hM4 hle_u_9 (fun _ _ => ⟨callB_of 3 hts (xgood w_849) rfl rfl rfl (hts _ (xm w_4)) (hts _ (xm w_846)) ⟨by decide, by decide, by decide +kernel⟩ ⟨Nat.le_of_ble_eq_true rfl, Nat.le_of_ble_eq_true rfl⟩, (hts _ (xm w_847)), (hts _ (xm w_848))⟩) (qc := (R_N, F_N, 13)) rfl rfl h5 rfl hl.1 rfl (Nat.le_of_ble_eq_true rfl) d_D_questionOf_12 (fun H locs hw => ?_)
  refine W.eq (g2 := F0 m 15 ls [.int r_10]) rfl ?_
  exact xr_iret F rfl hw d_D_questionOf_15
set_option maxRecDepth 100000 in
set_option maxHeartbeats 4000000 in
theorem c_D_inputAt (l : Launch) (Z : XZ) (x0 : Nat) (x1 : Int32) (u : PS) (K : Int32 → PS → Prop) (k : p_D_inputAt x0 x1 u K) : ∃ (rv : Option Value) (u1 : PS), (kI K) rv u1 ∧ XMet l Z i_D_inputAt [.ref x0, .int x1] u rv u1 := by
  refine x_met (by decide) rfl (Nat.le_of_ble_eq_true rfl) ?_
  show XN l Z i_D_inputAt u (kI K) u 0 [(0, .ref x0), (1, .int x1)] []
  unfold p_D_inputAt at k
  obtain ⟨z_3, h1, k⟩ := k
  obtain ⟨z_4, h2, k⟩ := k
  have hle_u : x_le u u := x_le.rf u
  refine ⟨some (.int z_4), u, ⟨z_4, rfl, k⟩, hle_u, ?_⟩
  intro p e s m args below meth c A H locs ls F hw hl
  obtain ⟨⟨hx, hb, hml, hown, hts⟩, hr, hlocks, hmn⟩ := id F
  refine lv_aload_n hx hb d_D_inputAt_0 rfl (lv_at hl 0 rfl) ?_
  refine xr_get hx hb hts (xmu uws_D) hown hw h1 rfl (by decide) (hts _ (xm w_195)) (fun _ h9 => h9) d_D_inputAt_1 ?_
  refine lv_iload_n hx hb d_D_inputAt_4 rfl (lv_at hl 1 rfl) ?_
  refine xr_iald hx hb hw h2 d_D_inputAt_5 ?_
  exact xr_iret F rfl hw d_D_inputAt_6
set_option maxRecDepth 100000 in
set_option maxHeartbeats 4000000 in
theorem c_D_wholeSize (l : Launch) (Z : XZ) (x0 : Nat) (u : PS) (K : Int32 → PS → Prop) (k : p_D_wholeSize x0 u K) : ∃ (rv : Option Value) (u1 : PS), (kI K) rv u1 ∧ XMet l Z i_D_wholeSize [.ref x0] u rv u1 := by
  refine x_met (by decide) rfl (Nat.le_of_ble_eq_true rfl) ?_
  show XN l Z i_D_wholeSize u (kI K) u 0 [(0, .ref x0)] []
  unfold p_D_wholeSize at k
  obtain ⟨z_4, h1, k⟩ := k
  obtain ⟨h3, k⟩ := k
  obtain ⟨_, u_5, ⟨r_6, rfl, k⟩, hM2⟩ := c_N_wholeSize l Z z_4 u _ k
  have hle_u_5 : x_le u_5 u_5 := x_le.rf u_5
  have hle_u : x_le u u_5 := (hM2.1).tr hle_u_5
  refine ⟨some (.int r_6), u_5, ⟨r_6, rfl, k⟩, hle_u, ?_⟩
  intro p e s m args below meth c A H locs ls F hw hl
  obtain ⟨⟨hx, hb, hml, hown, hts⟩, hr, hlocks, hmn⟩ := id F
  refine lv_aload_n hx hb d_D_wholeSize_0 rfl (lv_at hl 0 rfl) ?_
  refine xr_get hx hb hts (xmu uws_D) hown hw h1 rfl (by decide) (hts _ (xm w_192)) (fun _ h9 => h9) d_D_wholeSize_1 ?_
  refine xr_cV (As := []) (rest := []) ⟨hx, hb, hml, hown, hts⟩ hw hM2 hle_u_5 (fun _ _ => ⟨callB_of 0 hts (xgood w_294) rfl rfl rfl (hts _ (xm w_4)) (hts _ (xm w_417)) ⟨by decide, by decide, by decide +kernel⟩ ⟨Nat.le_of_ble_eq_true rfl, Nat.le_of_ble_eq_true rfl⟩, (hts _ (xm w_292)), (hts _ (xm w_293))⟩) (qc := (R_N, F_N, 13)) rfl rfl h3 rfl hl.1 rfl (Nat.le_of_ble_eq_true rfl) d_D_wholeSize_4 (fun H locs hw => ?_)
  refine W.eq (g2 := F0 m 7 ls [.int r_6]) rfl ?_
  exact xr_iret F rfl hw d_D_wholeSize_7
set_option maxRecDepth 100000 in
set_option maxHeartbeats 4000000 in
theorem c_D_questionsFor (l : Launch) (Z : XZ) (x0 : Nat) (x1 : Int32) (u : PS) (K : Int32 → PS → Prop) (k : p_D_questionsFor x0 x1 u K) : ∃ (rv : Option Value) (u1 : PS), (kI K) rv u1 ∧ XMet l Z i_D_questionsFor [.ref x0, .int x1] u rv u1 := by
  refine x_met (by decide) rfl (Nat.le_of_ble_eq_true rfl) ?_
  show XN l Z i_D_questionsFor u (kI K) u 0 [(0, .ref x0), (1, .int x1)] []
  unfold p_D_questionsFor at k
  obtain ⟨z_4, h1, k⟩ := k
  obtain ⟨h3, k⟩ := k
  obtain ⟨_, u_5, ⟨r_6, rfl, k⟩, hM2⟩ := c_N_asksFor l Z z_4 x1 u _ k
  have hle_u_5 : x_le u_5 u_5 := x_le.rf u_5
  have hle_u : x_le u u_5 := (hM2.1).tr hle_u_5
  refine ⟨some (.int r_6), u_5, ⟨r_6, rfl, k⟩, hle_u, ?_⟩
  intro p e s m args below meth c A H locs ls F hw hl
  obtain ⟨⟨hx, hb, hml, hown, hts⟩, hr, hlocks, hmn⟩ := id F
  refine lv_aload_n hx hb d_D_questionsFor_0 rfl (lv_at hl 0 rfl) ?_
  refine xr_get hx hb hts (xmu uws_D) hown hw h1 rfl (by decide) (hts _ (xm w_192)) (fun _ h9 => h9) d_D_questionsFor_1 ?_
  refine lv_iload_n hx hb d_D_questionsFor_4 rfl (lv_at hl 1 rfl) ?_
  refine xr_cV (As := [.int x1]) (rest := []) ⟨hx, hb, hml, hown, hts⟩ hw hM2 hle_u_5 (fun _ _ => ⟨callB_of 1 hts (xgood w_395) rfl rfl rfl (hts _ (xm w_4)) (hts _ (xm w_392)) ⟨by decide, by decide, by decide +kernel⟩ ⟨Nat.le_of_ble_eq_true rfl, Nat.le_of_ble_eq_true rfl⟩, (hts _ (xm w_393)), (hts _ (xm w_394))⟩) (qc := (R_N, F_N, 13)) rfl rfl h3 rfl hl.1 rfl (Nat.le_of_ble_eq_true rfl) d_D_questionsFor_5 (fun H locs hw => ?_)
  refine W.eq (g2 := F0 m 8 ls [.int r_6]) rfl ?_
  exact xr_iret F rfl hw d_D_questionsFor_8
set_option maxRecDepth 100000 in
set_option maxHeartbeats 4000000 in
theorem t_D_takeOut_L7 (l : Launch) (Z : XZ) (u0 : PS) {Kv : Option Value → PS → Prop} {E26 : Int32 → PS → Prop} (x0 : Nat) (x1 : Int32) (x2 : Nat) (hE26 : ∀ (y3 : Int32) (v : PS), E26 y3 v → XN l Z i_D_takeOut u0 Kv v 26 [(0, .ref x0), (2, .ref x2), (3, .int y3)] []) : ∀ (n : Nat) (x3 : Int32) (u : PS), p_D_takeOut_L7 x0 x1 x2 E26 n x3 u → XN l Z i_D_takeOut u0 Kv u 7 [(0, .ref x0), (1, .int x1), (2, .ref x2), (3, .int x3)] [] := by
  intro n
  induction n with
  | zero => intro x3 u k; exact False.elim k
  | succ n ih =>
    intro x3 u k
    rw [p_D_takeOut_L7] at k
    by_cases hc1 : 9 ≤ x3
    · have k := k.1 hc1
      obtain ⟨rv, v9, hK, hle_u, w9⟩ := hE26 x3 u k
      refine ⟨rv, v9, hK, hle_u, ?_⟩
      intro p e s m args below meth c A H locs ls F hw hl
      obtain ⟨⟨hx, hb, hml, hown, hts⟩, hr, hlocks, hmn⟩ := id F
      refine lv_iload_n hx hb d_D_takeOut_7 rfl (lv_at hl 3 rfl) ?_
      refine lv_bipush (v := 9) hx hb d_D_takeOut_8 (by decide) ?_
      refine lv_icmp_ge (tgt := 26) hx hb d_D_takeOut_10 (by decide) (fun _ => ?_) (fun c9 => absurd hc1 c9)
      exact w9 p e s m args below meth c A H locs ls F hw (lv_sub hl [0, 2, 3] rfl)
    · have k := k.2 hc1
      obtain ⟨z_10, h2, k⟩ := k
      by_cases hc3 : z_10 = x1
      · have k := k.1 hc3
        obtain ⟨rv, v9, hK, hle_u, w9⟩ := hE26 x3 u k
        refine ⟨rv, v9, hK, hle_u, ?_⟩
        intro p e s m args below meth c A H locs ls F hw hl
        obtain ⟨⟨hx, hb, hml, hown, hts⟩, hr, hlocks, hmn⟩ := id F
        refine lv_iload_n hx hb d_D_takeOut_7 rfl (lv_at hl 3 rfl) ?_
        refine lv_bipush (v := 9) hx hb d_D_takeOut_8 (by decide) ?_
        refine lv_icmp_ge (tgt := 26) hx hb d_D_takeOut_10 (by decide) (fun c9 => absurd c9 hc1) (fun _ => ?_)
        refine lv_aload_n hx hb d_D_takeOut_13 rfl (lv_at hl 2 rfl) ?_
        refine lv_iload_n hx hb d_D_takeOut_14 rfl (lv_at hl 3 rfl) ?_
        refine xr_iald hx hb hw h2 d_D_takeOut_15 ?_
        refine lv_iload_n hx hb d_D_takeOut_16 rfl (lv_at hl 1 rfl) ?_
        refine lv_icmp_eq (tgt := 26) hx hb d_D_takeOut_17 (by decide) (fun _ => ?_) (fun c9 => absurd hc3 c9)
        exact w9 p e s m args below meth c A H locs ls F hw (lv_sub hl [0, 2, 3] rfl)
      · have k := k.2 hc3
        obtain ⟨y4, ey4⟩ : ∃ y9 : Int32, y9 = x3 + 1 := ⟨_, rfl⟩
        have k := k y4 ey4
        obtain ⟨rv, v9, hK, hle_u, w9⟩ := ih y4 u k
        refine ⟨rv, v9, hK, hle_u, ?_⟩
        intro p e s m args below meth c A H locs ls F hw hl
        obtain ⟨⟨hx, hb, hml, hown, hts⟩, hr, hlocks, hmn⟩ := id F
        refine lv_iload_n hx hb d_D_takeOut_7 rfl (lv_at hl 3 rfl) ?_
        refine lv_bipush (v := 9) hx hb d_D_takeOut_8 (by decide) ?_
        refine lv_icmp_ge (tgt := 26) hx hb d_D_takeOut_10 (by decide) (fun c9 => absurd c9 hc1) (fun _ => ?_)
        refine lv_aload_n hx hb d_D_takeOut_13 rfl (lv_at hl 2 rfl) ?_
        refine lv_iload_n hx hb d_D_takeOut_14 rfl (lv_at hl 3 rfl) ?_
        refine xr_iald hx hb hw h2 d_D_takeOut_15 ?_
        refine lv_iload_n hx hb d_D_takeOut_16 rfl (lv_at hl 1 rfl) ?_
        refine lv_icmp_eq (tgt := 26) hx hb d_D_takeOut_17 (by decide) (fun c9 => absurd c9 hc3) (fun _ => ?_)
        refine lv_iinc (v := y4) (lv' := [(3, .int y4), (0, .ref x0), (1, .int x1), (2, .ref x2)]) hx hb d_D_takeOut_20 hl (k := 3) rfl (by subst ey4; rfl) (by decide) rfl (fun ls hl => ?_)
        refine lv_goto (tgt := 7) hx hb d_D_takeOut_23 (by decide) ?_
        exact w9 p e s m args below meth c A H locs ls F hw (lv_sub hl [1, 2, 3, 0] rfl)
set_option maxRecDepth 100000 in
set_option maxHeartbeats 4000000 in
theorem t_D_takeOut_J26 (l : Launch) (Z : XZ) (u0 : PS) {K : PS → Prop} (x0 : Nat) (x2 : Nat) (x3 : Int32) (u : PS) (k : (p_D_takeOut_J26 K x0 x2 x3 u)) : XN l Z i_D_takeOut u0 (kV K) u 26 [(0, .ref x0), (2, .ref x2), (3, .int x3)] [] := by
  unfold p_D_takeOut_J26 at k
  obtain ⟨u_11, h1, k⟩ := k
  obtain ⟨u_12, h2, k⟩ := k
  have hle_u_12 : x_le u_12 u_12 := x_le.rf u_12
  have hle_u_11 : x_le u_11 u_12 := (h2.le).tr hle_u_12
  have hle_u : x_le u u_12 := (h1.le).tr hle_u_11
  refine ⟨none, u_12, ⟨rfl, k⟩, hle_u, ?_⟩
  intro p e s m args below meth c A H locs ls F hw hl
  obtain ⟨⟨hx, hb, hml, hown, hts⟩, hr, hlocks, hmn⟩ := id F
  refine lv_aload_n hx hb d_D_takeOut_26 rfl (lv_at hl 1 rfl) ?_
  refine lv_iload_n hx hb d_D_takeOut_27 rfl (lv_at hl 2 rfl) ?_
  refine lv_iconst (v := 1) hx hb d_D_takeOut_28 (by decide) ?_
  refine lv_iadd hx hb d_D_takeOut_29 ?_
  refine lv_aload_n hx hb d_D_takeOut_30 rfl (lv_at hl 1 rfl) ?_
  refine lv_iload_n hx hb d_D_takeOut_31 rfl (lv_at hl 2 rfl) ?_
  refine lv_bipush (v := 9) hx hb d_D_takeOut_32 (by decide) ?_
  refine lv_iload_n hx hb d_D_takeOut_34 rfl (lv_at hl 2 rfl) ?_
  refine lv_isub hx hb d_D_takeOut_35 ?_
  refine xr_copy (rest := []) hx hb (hml.trans hl.1.symm) hown (hts _ (xm w_408)) (hts _ (xm w_307)) (hts _ (xm w_306)) (hts _ (xm w_15)) hw h1 (Nat.le_of_ble_eq_true rfl) (Nat.le_of_ble_eq_true rfl) d_D_takeOut_36 (fun H locs hw => ?_)
  refine lv_aload_n hx hb d_D_takeOut_39 rfl (lv_at hl 0 rfl) ?_
  refine lv_iload_n hx hb d_D_takeOut_40 rfl (lv_at hl 2 rfl) ?_
  refine xr_put (ty := .int) hx hb hts (xmu uws_D) tyc_D tyc_D_ok nmc_D hown hw h2 rfl (by decide) (hts _ (xm w_201)) (fun _ h9 => h9) rfl (by decide +kernel) rfl rfl d_D_takeOut_41 (fun H locs hw => ?_)
  exact xr_vret F rfl hw d_D_takeOut_44
set_option maxRecDepth 100000 in
set_option maxHeartbeats 4000000 in
theorem c_D_takeOut (l : Launch) (Z : XZ) (x0 : Nat) (x1 : Int32) (u : PS) (K : PS → Prop) (k : p_D_takeOut x0 x1 u K) : ∃ (rv : Option Value) (u1 : PS), (kV K) rv u1 ∧ XMet l Z i_D_takeOut [.ref x0, .int x1] u rv u1 := by
  refine x_met (by decide) rfl (Nat.le_of_ble_eq_true rfl) ?_
  show XN l Z i_D_takeOut u (kV K) u 0 [(0, .ref x0), (1, .int x1)] []
  unfold p_D_takeOut at k
  obtain ⟨z_9, h1, k⟩ := k
  obtain ⟨n2, k⟩ := k
  have hx5 : ∀ (y3_3 : Int32) (v4 : PS), (p_D_takeOut_J26 K x0 z_9 y3_3 v4) → XN l Z i_D_takeOut u (kV K) v4 26 [(0, .ref x0), (2, .ref z_9), (3, .int y3_3)] [] := by
    intro y3_3 v4 k
    obtain ⟨rv, v9, hK, hle_v4, w9⟩ := t_D_takeOut_J26 l Z u x0 z_9 y3_3 v4 k
    refine ⟨rv, v9, hK, hle_v4, ?_⟩
    intro p e s m args below meth c A H locs ls F hw hl
    obtain ⟨⟨hx, hb, hml, hown, hts⟩, hr, hlocks, hmn⟩ := id F
    exact w9 p e s m args below meth c A H locs ls F hw (lv_sub hl [0, 1, 2] rfl)
  obtain ⟨rv, v9, hK, hle_u, w9⟩ := t_D_takeOut_L7 l Z u x0 x1 z_9 hx5 n2 (0 : Int32) u k
  refine ⟨rv, v9, hK, hle_u, ?_⟩
  intro p e s m args below meth c A H locs ls F hw hl
  obtain ⟨⟨hx, hb, hml, hown, hts⟩, hr, hlocks, hmn⟩ := id F
  refine lv_aload_n hx hb d_D_takeOut_0 rfl (lv_at hl 0 rfl) ?_
  refine xr_get hx hb hts (xmu uws_D) hown hw h1 rfl (by decide) (hts _ (xm w_195)) (fun _ h9 => h9) d_D_takeOut_1 ?_
  refine lv_astore_n (lv' := [(2, .ref z_9), (0, .ref x0), (1, .int x1)]) hx hb d_D_takeOut_4 rfl hl (by decide) rfl (fun ls hl => ?_)
  refine lv_iconst (v := 0) hx hb d_D_takeOut_5 (by decide) ?_
  refine lv_istore_n (lv' := [(3, .int 0), (2, .ref z_9), (0, .ref x0), (1, .int x1)]) hx hb d_D_takeOut_6 rfl hl (by decide) rfl (fun ls hl => ?_)
  exact w9 p e s m args below meth c A H locs ls F hw (lv_sub hl [2, 3, 1, 0] rfl)
set_option maxRecDepth 100000 in
set_option maxHeartbeats 4000000 in
theorem t_D_matesOf_J23 (l : Launch) (Z : XZ) (u0 : PS) {K : Int32 → PS → Prop} (x0 : Nat) (x1 : Int32) (u : PS) (k : (p_D_matesOf_J23 K x0 x1 u)) : XN l Z i_D_matesOf u0 (kI K) u 23 [(0, .ref x0), (1, .int x1)] [] := by
  unfold p_D_matesOf_J23 at k
  obtain ⟨z_13, h1, k⟩ := k
  obtain ⟨z_14, h2, k⟩ := k
  have hle_u : x_le u u := x_le.rf u
  refine ⟨some (.int z_14), u, ⟨z_14, rfl, k⟩, hle_u, ?_⟩
  intro p e s m args below meth c A H locs ls F hw hl
  obtain ⟨⟨hx, hb, hml, hown, hts⟩, hr, hlocks, hmn⟩ := id F
  refine lv_aload_n hx hb d_D_matesOf_23 rfl (lv_at hl 0 rfl) ?_
  refine xr_get hx hb hts (xmu uws_D) hown hw h1 rfl (by decide) (hts _ (xm w_198)) (fun _ h9 => h9) d_D_matesOf_24 ?_
  refine lv_iload_n hx hb d_D_matesOf_27 rfl (lv_at hl 1 rfl) ?_
  refine xr_iald hx hb hw h2 d_D_matesOf_28 ?_
  exact xr_iret F rfl hw d_D_matesOf_29
set_option maxRecDepth 100000 in
set_option maxHeartbeats 4000000 in
theorem c_D_matesOf (l : Launch) (Z : XZ) (x0 : Nat) (x1 : Int32) (u : PS) (K : Int32 → PS → Prop) (k : p_D_matesOf x0 x1 u K) : ∃ (rv : Option Value) (u1 : PS), (kI K) rv u1 ∧ XMet l Z i_D_matesOf [.ref x0, .int x1] u rv u1 := by
  refine x_met (by decide) rfl (Nat.le_of_ble_eq_true rfl) ?_
  show XN l Z i_D_matesOf u (kI K) u 0 [(0, .ref x0), (1, .int x1)] []
  unfold p_D_matesOf at k
  obtain ⟨z_8, h1, k⟩ := k
  by_cases hc2 : z_8 = 0
  · have k := k.2 hc2
    obtain ⟨z_9, h3, k⟩ := k
    obtain ⟨z_10, h4, k⟩ := k
    obtain ⟨h6, k⟩ := k
    obtain ⟨_, u_11, ⟨rfl, k⟩, hM5⟩ := c_F_findMates l Z z_9 z_10 u _ k
    obtain ⟨h8, k⟩ := k
    obtain ⟨u_12, h7, k⟩ := k
    obtain ⟨rv, v9, hK, hle_u_12, w9⟩ := t_D_matesOf_J23 l Z u x0 x1 u_12 k
    have hle_u_11 : x_le u_11 v9 := (h7.le).tr hle_u_12
    have hle_u : x_le u v9 := (hM5.1).tr hle_u_11
    refine ⟨rv, v9, hK, hle_u, ?_⟩
    intro p e s m args below meth c A H locs ls F hw hl
    obtain ⟨⟨hx, hb, hml, hown, hts⟩, hr, hlocks, hmn⟩ := id F
    refine lv_aload_n hx hb d_D_matesOf_0 rfl (lv_at hl 0 rfl) ?_
    refine xr_get hx hb hts (xmu uws_D) hown hw h1 rfl (by decide) (hts _ (xm w_199)) (fun _ h9 => h9) d_D_matesOf_1 ?_
    refine lv_if_ne (tgt := 23) hx hb d_D_matesOf_4 (by decide) (fun c9 => absurd hc2 c9) (fun _ => ?_)
    refine lv_aload_n hx hb d_D_matesOf_7 rfl (lv_at hl 0 rfl) ?_
    refine xr_get hx hb hts (xmu uws_D) hown hw h3 rfl (by decide) (hts _ (xm w_191)) (fun _ h9 => h9) d_D_matesOf_8 ?_
    refine lv_aload_n hx hb d_D_matesOf_11 rfl (lv_at hl 0 rfl) ?_
    refine xr_get hx hb hts (xmu uws_D) hown hw h4 rfl (by decide) (hts _ (xm w_198)) (fun _ h9 => h9) d_D_matesOf_12 ?_
    refine xr_cV (As := [.ref z_10]) (rest := []) ⟨hx, hb, hml, hown, hts⟩ hw hM5 hle_u_11 (fun _ _ => ⟨callB_of 1 hts (xgood w_416) rfl rfl rfl (hts _ (xm w_2)) (hts _ (xm w_413)) ⟨by decide, by decide, by decide +kernel⟩ ⟨Nat.le_of_ble_eq_true rfl, Nat.le_of_ble_eq_true rfl⟩, (hts _ (xm w_414)), (hts _ (xm w_415))⟩) (qc := (R_F, F_F, 5)) rfl rfl h6 rfl hl.1 rfl (Nat.le_of_ble_eq_true rfl) d_D_matesOf_15 (fun H locs hw => ?_)
    refine W.eq (g2 := F0 m 18 ls []) rfl ?_
    refine lv_aload_n hx hb d_D_matesOf_18 rfl (lv_at hl 0 rfl) ?_
    refine lv_iconst (v := 1) hx hb d_D_matesOf_19 (by decide) ?_
    refine xr_put (ty := .boolean) hx hb hts (xmu uws_D) tyc_D tyc_D_ok nmc_D hown hw h7 rfl (by decide) (hts _ (xm w_199)) (fun _ h9 => h9) rfl (by decide +kernel) (by rcases h8 with e9 | e9 <;> rw [e9] <;> rfl) (by rcases h8 with e9 | e9 <;> rw [e9] <;> rfl) d_D_matesOf_20 (fun H locs hw => ?_)
    exact w9 p e s m args below meth c A H locs ls F hw (lv_sub hl [0, 1] rfl)
  · have k := k.1 hc2
    obtain ⟨rv, v9, hK, hle_u, w9⟩ := t_D_matesOf_J23 l Z u x0 x1 u k
    refine ⟨rv, v9, hK, hle_u, ?_⟩
    intro p e s m args below meth c A H locs ls F hw hl
    obtain ⟨⟨hx, hb, hml, hown, hts⟩, hr, hlocks, hmn⟩ := id F
    refine lv_aload_n hx hb d_D_matesOf_0 rfl (lv_at hl 0 rfl) ?_
    refine xr_get hx hb hts (xmu uws_D) hown hw h1 rfl (by decide) (hts _ (xm w_199)) (fun _ h9 => h9) d_D_matesOf_1 ?_
    refine lv_if_ne (tgt := 23) hx hb d_D_matesOf_4 (by decide) (fun _ => ?_) (fun c9 => absurd c9 hc2)
    exact w9 p e s m args below meth c A H locs ls F hw (lv_sub hl [0, 1] rfl)
set_option maxRecDepth 100000 in
set_option maxHeartbeats 4000000 in
theorem t_D_pass_J41 (l : Launch) (Z : XZ) (u0 : PS) {Kv : Option Value → PS → Prop} {R : Int32 → PS → Prop} {E47 : PS → Prop} (x0 : Nat) (x1 : Int32) (x2 : Int32) (x3 : Int32) (x4 : Int32) (u : PS) (hR : ∀ (y4 : Int32) (v : PS), R y4 v → XN l Z i_D_pass u0 Kv v 6 [(0, .ref x0), (1, .int x1), (2, .int x2), (3, .int x3), (4, .int y4)] []) (hE47 : ∀ (v : PS), E47 v → XN l Z i_D_pass u0 Kv v 47 [(0, .ref x0), (1, .int x1), (2, .int x2), (3, .int x3)] []) (k : (p_D_pass_J41 R E47 x0 x1 x2 x3 x4 u)) : XN l Z i_D_pass u0 Kv u 41 [(0, .ref x0), (1, .int x1), (2, .int x2), (3, .int x3), (4, .int x4)] [] := by
  unfold p_D_pass_J41 at k
  obtain ⟨y1, ey1⟩ : ∃ y9 : Int32, y9 = x4 + 1 := ⟨_, rfl⟩
  have k := k y1 ey1
  obtain ⟨rv, v9, hK, hle_u, w9⟩ := hR y1 u k
  refine ⟨rv, v9, hK, hle_u, ?_⟩
  intro p e s m args below meth c A H locs ls F hw hl
  obtain ⟨⟨hx, hb, hml, hown, hts⟩, hr, hlocks, hmn⟩ := id F
  refine lv_iinc (v := y1) (lv' := [(4, .int y1), (0, .ref x0), (1, .int x1), (2, .int x2), (3, .int x3)]) hx hb d_D_pass_41 hl (k := 4) rfl (by subst ey1; rfl) (by decide) rfl (fun ls hl => ?_)
  refine lv_goto (tgt := 6) hx hb d_D_pass_44 (by decide) ?_
  exact w9 p e s m args below meth c A H locs ls F hw (lv_sub hl [1, 2, 3, 4, 0] rfl)
set_option maxRecDepth 100000 in
set_option maxHeartbeats 4000000 in
theorem t_D_pass_L6 (l : Launch) (Z : XZ) (u0 : PS) {Kv : Option Value → PS → Prop} {E47 : PS → Prop} (x0 : Nat) (x1 : Int32) (x2 : Int32) (x3 : Int32) (hE47 : ∀ (v : PS), E47 v → XN l Z i_D_pass u0 Kv v 47 [(0, .ref x0), (1, .int x1), (2, .int x2), (3, .int x3)] []) : ∀ (n : Nat) (x4 : Int32) (u : PS), p_D_pass_L6 x0 x1 x2 x3 E47 n x4 u → XN l Z i_D_pass u0 Kv u 6 [(0, .ref x0), (1, .int x1), (2, .int x2), (3, .int x3), (4, .int x4)] [] := by
  intro n
  induction n with
  | zero => intro x4 u k; exact False.elim k
  | succ n ih =>
    intro x4 u k
    rw [p_D_pass_L6] at k
    by_cases hc1 : x2 ≤ x4
    · have k := k.1 hc1
      obtain ⟨rv, v9, hK, hle_u, w9⟩ := hE47 u k
      refine ⟨rv, v9, hK, hle_u, ?_⟩
      intro p e s m args below meth c A H locs ls F hw hl
      obtain ⟨⟨hx, hb, hml, hown, hts⟩, hr, hlocks, hmn⟩ := id F
      refine lv_iload hx hb d_D_pass_6 (lv_at hl 4 rfl) ?_
      refine lv_iload_n hx hb d_D_pass_8 rfl (lv_at hl 2 rfl) ?_
      refine lv_icmp_ge (tgt := 47) hx hb d_D_pass_9 (by decide) (fun _ => ?_) (fun c9 => absurd hc1 c9)
      exact w9 p e s m args below meth c A H locs ls F hw (lv_sub hl [0, 1, 2, 3] rfl)
    · have k := k.2 hc1
      obtain ⟨z_19, h2, k⟩ := k
      obtain ⟨z_20, h3, k⟩ := k
      by_cases hc4 : ((x3 >>> (z_20 &&& 31)) &&& (1 : Int32)) = 1
      · have k := k.2 hc4
        obtain ⟨z_21, h5, k⟩ := k
        obtain ⟨h7, k⟩ := k
        obtain ⟨_, u_22, ⟨rfl, k⟩, hM6⟩ := c_N_change l Z z_21 x1 z_20 u _ k
        obtain ⟨rv, v9, hK, hle_u_22, w9⟩ := t_D_pass_J41 l Z u0 x0 x1 x2 x3 x4 u_22 ih hE47 k
        have hle_u : x_le u v9 := (hM6.1).tr hle_u_22
        refine ⟨rv, v9, hK, hle_u, ?_⟩
        intro p e s m args below meth c A H locs ls F hw hl
        obtain ⟨⟨hx, hb, hml, hown, hts⟩, hr, hlocks, hmn⟩ := id F
        refine lv_iload hx hb d_D_pass_6 (lv_at hl 4 rfl) ?_
        refine lv_iload_n hx hb d_D_pass_8 rfl (lv_at hl 2 rfl) ?_
        refine lv_icmp_ge (tgt := 47) hx hb d_D_pass_9 (by decide) (fun c9 => absurd c9 hc1) (fun _ => ?_)
        refine lv_aload_n hx hb d_D_pass_12 rfl (lv_at hl 0 rfl) ?_
        refine xr_get hx hb hts (xmu uws_D) hown hw h2 rfl (by decide) (hts _ (xm w_195)) (fun _ h9 => h9) d_D_pass_13 ?_
        refine lv_iload hx hb d_D_pass_16 (lv_at hl 4 rfl) ?_
        refine xr_iald hx hb hw h3 d_D_pass_18 ?_
        refine lv_istore (lv' := [(5, .int z_20), (0, .ref x0), (1, .int x1), (2, .int x2), (3, .int x3), (4, .int x4)]) hx hb d_D_pass_19 hl (by decide) rfl (fun ls hl => ?_)
        refine lv_iload_n hx hb d_D_pass_21 rfl (lv_at hl 4 rfl) ?_
        refine lv_iload hx hb d_D_pass_22 (lv_at hl 0 rfl) ?_
        refine lv_ishr hx hb d_D_pass_24 ?_
        refine lv_iconst (v := 1) hx hb d_D_pass_25 (by decide) ?_
        refine lv_iand hx hb d_D_pass_26 ?_
        refine lv_iconst (v := 1) hx hb d_D_pass_27 (by decide) ?_
        refine lv_icmp_ne (tgt := 41) hx hb d_D_pass_28 (by decide) (fun c9 => absurd hc4 c9) (fun _ => ?_)
        refine lv_aload_n hx hb d_D_pass_31 rfl (lv_at hl 1 rfl) ?_
        refine xr_get hx hb hts (xmu uws_D) hown hw h5 rfl (by decide) (hts _ (xm w_192)) (fun _ h9 => h9) d_D_pass_32 ?_
        refine lv_iload_n hx hb d_D_pass_35 rfl (lv_at hl 2 rfl) ?_
        refine lv_iload hx hb d_D_pass_36 (lv_at hl 0 rfl) ?_
        refine xr_cV (As := [.int x1, .int z_20]) (rest := []) ⟨hx, hb, hml, hown, hts⟩ hw hM6 hle_u_22 (fun _ _ => ⟨callB_of 2 hts (xgood w_484) rfl rfl rfl (hts _ (xm w_4)) (hts _ (xm w_481)) ⟨by decide, by decide, by decide +kernel⟩ ⟨Nat.le_of_ble_eq_true rfl, Nat.le_of_ble_eq_true rfl⟩, (hts _ (xm w_482)), (hts _ (xm w_483))⟩) (qc := (R_N, F_N, 13)) rfl rfl h7 rfl hl.1 rfl (Nat.le_of_ble_eq_true rfl) d_D_pass_38 (fun H locs hw => ?_)
        refine W.eq (g2 := F0 m 41 ls []) rfl ?_
        exact w9 p e s m args below meth c A H locs ls F hw (lv_sub hl [1, 2, 3, 4, 5] rfl)
      · have k := k.1 hc4
        obtain ⟨rv, v9, hK, hle_u, w9⟩ := t_D_pass_J41 l Z u0 x0 x1 x2 x3 x4 u ih hE47 k
        refine ⟨rv, v9, hK, hle_u, ?_⟩
        intro p e s m args below meth c A H locs ls F hw hl
        obtain ⟨⟨hx, hb, hml, hown, hts⟩, hr, hlocks, hmn⟩ := id F
        refine lv_iload hx hb d_D_pass_6 (lv_at hl 4 rfl) ?_
        refine lv_iload_n hx hb d_D_pass_8 rfl (lv_at hl 2 rfl) ?_
        refine lv_icmp_ge (tgt := 47) hx hb d_D_pass_9 (by decide) (fun c9 => absurd c9 hc1) (fun _ => ?_)
        refine lv_aload_n hx hb d_D_pass_12 rfl (lv_at hl 0 rfl) ?_
        refine xr_get hx hb hts (xmu uws_D) hown hw h2 rfl (by decide) (hts _ (xm w_195)) (fun _ h9 => h9) d_D_pass_13 ?_
        refine lv_iload hx hb d_D_pass_16 (lv_at hl 4 rfl) ?_
        refine xr_iald hx hb hw h3 d_D_pass_18 ?_
        refine lv_istore (lv' := [(5, .int z_20), (0, .ref x0), (1, .int x1), (2, .int x2), (3, .int x3), (4, .int x4)]) hx hb d_D_pass_19 hl (by decide) rfl (fun ls hl => ?_)
        refine lv_iload_n hx hb d_D_pass_21 rfl (lv_at hl 4 rfl) ?_
        refine lv_iload hx hb d_D_pass_22 (lv_at hl 0 rfl) ?_
        refine lv_ishr hx hb d_D_pass_24 ?_
        refine lv_iconst (v := 1) hx hb d_D_pass_25 (by decide) ?_
        refine lv_iand hx hb d_D_pass_26 ?_
        refine lv_iconst (v := 1) hx hb d_D_pass_27 (by decide) ?_
        refine lv_icmp_ne (tgt := 41) hx hb d_D_pass_28 (by decide) (fun _ => ?_) (fun c9 => absurd c9 hc4)
        exact w9 p e s m args below meth c A H locs ls F hw (lv_sub hl [1, 2, 3, 4, 5] rfl)
set_option maxRecDepth 100000 in
set_option maxHeartbeats 4000000 in
theorem t_D_pass_J90 (l : Launch) (Z : XZ) (u0 : PS) {Kv : Option Value → PS → Prop} {R : Int32 → PS → Prop} {E96 : PS → Prop} (x0 : Nat) (x1 : Int32) (x2 : Int32) (x3 : Int32) (x4 : Int32) (u : PS) (hR : ∀ (y4 : Int32) (v : PS), R y4 v → XN l Z i_D_pass u0 Kv v 55 [(0, .ref x0), (1, .int x1), (2, .int x2), (3, .int x3), (4, .int y4)] []) (hE96 : ∀ (v : PS), E96 v → XN l Z i_D_pass u0 Kv v 96 [] []) (k : (p_D_pass_J90 R E96 x0 x1 x2 x3 x4 u)) : XN l Z i_D_pass u0 Kv u 90 [(0, .ref x0), (1, .int x1), (2, .int x2), (3, .int x3), (4, .int x4)] [] := by
  unfold p_D_pass_J90 at k
  obtain ⟨y1, ey1⟩ : ∃ y9 : Int32, y9 = x4 + (-1) := ⟨_, rfl⟩
  have k := k y1 ey1
  obtain ⟨rv, v9, hK, hle_u, w9⟩ := hR y1 u k
  refine ⟨rv, v9, hK, hle_u, ?_⟩
  intro p e s m args below meth c A H locs ls F hw hl
  obtain ⟨⟨hx, hb, hml, hown, hts⟩, hr, hlocks, hmn⟩ := id F
  refine lv_iinc (v := y1) (lv' := [(4, .int y1), (0, .ref x0), (1, .int x1), (2, .int x2), (3, .int x3)]) hx hb d_D_pass_90 hl (k := 4) rfl (by subst ey1; rfl) (by decide) rfl (fun ls hl => ?_)
  refine lv_goto (tgt := 55) hx hb d_D_pass_93 (by decide) ?_
  exact w9 p e s m args below meth c A H locs ls F hw (lv_sub hl [1, 2, 3, 4, 0] rfl)
set_option maxRecDepth 100000 in
set_option maxHeartbeats 4000000 in
theorem t_D_pass_L55 (l : Launch) (Z : XZ) (u0 : PS) {Kv : Option Value → PS → Prop} {E96 : PS → Prop} (x0 : Nat) (x1 : Int32) (x2 : Int32) (x3 : Int32) (hE96 : ∀ (v : PS), E96 v → XN l Z i_D_pass u0 Kv v 96 [] []) : ∀ (n : Nat) (x4 : Int32) (u : PS), p_D_pass_L55 x0 x1 x2 x3 E96 n x4 u → XN l Z i_D_pass u0 Kv u 55 [(0, .ref x0), (1, .int x1), (2, .int x2), (3, .int x3), (4, .int x4)] [] := by
  intro n
  induction n with
  | zero => intro x4 u k; exact False.elim k
  | succ n ih =>
    intro x4 u k
    rw [p_D_pass_L55] at k
    by_cases hc1 : x4 < x2
    · have k := k.1 hc1
      obtain ⟨rv, v9, hK, hle_u, w9⟩ := hE96 u k
      refine ⟨rv, v9, hK, hle_u, ?_⟩
      intro p e s m args below meth c A H locs ls F hw hl
      obtain ⟨⟨hx, hb, hml, hown, hts⟩, hr, hlocks, hmn⟩ := id F
      refine lv_iload hx hb d_D_pass_55 (lv_at hl 4 rfl) ?_
      refine lv_iload_n hx hb d_D_pass_57 rfl (lv_at hl 2 rfl) ?_
      refine lv_icmp_lt (tgt := 96) hx hb d_D_pass_58 (by decide) (fun _ => ?_) (fun c9 => absurd hc1 c9)
      exact w9 p e s m args below meth c A H locs ls F hw (lv_sub hl [] rfl)
    · have k := k.2 hc1
      obtain ⟨z_24, h2, k⟩ := k
      obtain ⟨z_25, h3, k⟩ := k
      by_cases hc4 : ((x3 >>> (z_25 &&& 31)) &&& (1 : Int32)) = 1
      · have k := k.2 hc4
        obtain ⟨z_26, h5, k⟩ := k
        obtain ⟨h7, k⟩ := k
        obtain ⟨_, u_27, ⟨rfl, k⟩, hM6⟩ := c_N_change l Z z_26 z_25 x1 u _ k
        obtain ⟨rv, v9, hK, hle_u_27, w9⟩ := t_D_pass_J90 l Z u0 x0 x1 x2 x3 x4 u_27 ih hE96 k
        have hle_u : x_le u v9 := (hM6.1).tr hle_u_27
        refine ⟨rv, v9, hK, hle_u, ?_⟩
        intro p e s m args below meth c A H locs ls F hw hl
        obtain ⟨⟨hx, hb, hml, hown, hts⟩, hr, hlocks, hmn⟩ := id F
        refine lv_iload hx hb d_D_pass_55 (lv_at hl 4 rfl) ?_
        refine lv_iload_n hx hb d_D_pass_57 rfl (lv_at hl 2 rfl) ?_
        refine lv_icmp_lt (tgt := 96) hx hb d_D_pass_58 (by decide) (fun c9 => absurd c9 hc1) (fun _ => ?_)
        refine lv_aload_n hx hb d_D_pass_61 rfl (lv_at hl 0 rfl) ?_
        refine xr_get hx hb hts (xmu uws_D) hown hw h2 rfl (by decide) (hts _ (xm w_195)) (fun _ h9 => h9) d_D_pass_62 ?_
        refine lv_iload hx hb d_D_pass_65 (lv_at hl 4 rfl) ?_
        refine xr_iald hx hb hw h3 d_D_pass_67 ?_
        refine lv_istore (lv' := [(5, .int z_25), (0, .ref x0), (1, .int x1), (2, .int x2), (3, .int x3), (4, .int x4)]) hx hb d_D_pass_68 hl (by decide) rfl (fun ls hl => ?_)
        refine lv_iload_n hx hb d_D_pass_70 rfl (lv_at hl 4 rfl) ?_
        refine lv_iload hx hb d_D_pass_71 (lv_at hl 0 rfl) ?_
        refine lv_ishr hx hb d_D_pass_73 ?_
        refine lv_iconst (v := 1) hx hb d_D_pass_74 (by decide) ?_
        refine lv_iand hx hb d_D_pass_75 ?_
        refine lv_iconst (v := 1) hx hb d_D_pass_76 (by decide) ?_
        refine lv_icmp_ne (tgt := 90) hx hb d_D_pass_77 (by decide) (fun c9 => absurd hc4 c9) (fun _ => ?_)
        refine lv_aload_n hx hb d_D_pass_80 rfl (lv_at hl 1 rfl) ?_
        refine xr_get hx hb hts (xmu uws_D) hown hw h5 rfl (by decide) (hts _ (xm w_192)) (fun _ h9 => h9) d_D_pass_81 ?_
        refine lv_iload hx hb d_D_pass_84 (lv_at hl 0 rfl) ?_
        refine lv_iload_n hx hb d_D_pass_86 rfl (lv_at hl 2 rfl) ?_
        refine xr_cV (As := [.int z_25, .int x1]) (rest := []) ⟨hx, hb, hml, hown, hts⟩ hw hM6 hle_u_27 (fun _ _ => ⟨callB_of 2 hts (xgood w_484) rfl rfl rfl (hts _ (xm w_4)) (hts _ (xm w_481)) ⟨by decide, by decide, by decide +kernel⟩ ⟨Nat.le_of_ble_eq_true rfl, Nat.le_of_ble_eq_true rfl⟩, (hts _ (xm w_482)), (hts _ (xm w_483))⟩) (qc := (R_N, F_N, 13)) rfl rfl h7 rfl hl.1 rfl (Nat.le_of_ble_eq_true rfl) d_D_pass_87 (fun H locs hw => ?_)
        refine W.eq (g2 := F0 m 90 ls []) rfl ?_
        exact w9 p e s m args below meth c A H locs ls F hw (lv_sub hl [1, 2, 3, 4, 5] rfl)
      · have k := k.1 hc4
        obtain ⟨rv, v9, hK, hle_u, w9⟩ := t_D_pass_J90 l Z u0 x0 x1 x2 x3 x4 u ih hE96 k
        refine ⟨rv, v9, hK, hle_u, ?_⟩
        intro p e s m args below meth c A H locs ls F hw hl
        obtain ⟨⟨hx, hb, hml, hown, hts⟩, hr, hlocks, hmn⟩ := id F
        refine lv_iload hx hb d_D_pass_55 (lv_at hl 4 rfl) ?_
        refine lv_iload_n hx hb d_D_pass_57 rfl (lv_at hl 2 rfl) ?_
        refine lv_icmp_lt (tgt := 96) hx hb d_D_pass_58 (by decide) (fun c9 => absurd c9 hc1) (fun _ => ?_)
        refine lv_aload_n hx hb d_D_pass_61 rfl (lv_at hl 0 rfl) ?_
        refine xr_get hx hb hts (xmu uws_D) hown hw h2 rfl (by decide) (hts _ (xm w_195)) (fun _ h9 => h9) d_D_pass_62 ?_
        refine lv_iload hx hb d_D_pass_65 (lv_at hl 4 rfl) ?_
        refine xr_iald hx hb hw h3 d_D_pass_67 ?_
        refine lv_istore (lv' := [(5, .int z_25), (0, .ref x0), (1, .int x1), (2, .int x2), (3, .int x3), (4, .int x4)]) hx hb d_D_pass_68 hl (by decide) rfl (fun ls hl => ?_)
        refine lv_iload_n hx hb d_D_pass_70 rfl (lv_at hl 4 rfl) ?_
        refine lv_iload hx hb d_D_pass_71 (lv_at hl 0 rfl) ?_
        refine lv_ishr hx hb d_D_pass_73 ?_
        refine lv_iconst (v := 1) hx hb d_D_pass_74 (by decide) ?_
        refine lv_iand hx hb d_D_pass_75 ?_
        refine lv_iconst (v := 1) hx hb d_D_pass_76 (by decide) ?_
        refine lv_icmp_ne (tgt := 90) hx hb d_D_pass_77 (by decide) (fun _ => ?_) (fun c9 => absurd c9 hc4)
        exact w9 p e s m args below meth c A H locs ls F hw (lv_sub hl [1, 2, 3, 4, 5] rfl)
set_option maxRecDepth 100000 in
set_option maxHeartbeats 4000000 in
theorem t_D_pass_J47 (l : Launch) (Z : XZ) (u0 : PS) {K : PS → Prop} (x0 : Nat) (x1 : Int32) (x2 : Int32) (x3 : Int32) (u : PS) (k : (p_D_pass_J47 K x0 x1 x2 x3 u)) : XN l Z i_D_pass u0 (kV K) u 47 [(0, .ref x0), (1, .int x1), (2, .int x2), (3, .int x3)] [] := by
  unfold p_D_pass_J47 at k
  obtain ⟨z_23, h1, k⟩ := k
  obtain ⟨y2, ey2⟩ : ∃ y9 : Int32, y9 = (z_23 - (1 : Int32)) := ⟨_, rfl⟩
  have k := k y2 ey2
  obtain ⟨n3, k⟩ := k
  have hx5 : ∀ (v4 : PS), (K v4) → XN l Z i_D_pass u0 (kV K) v4 96 [] [] := by
    intro v4 k
    have hle_v4 : x_le v4 v4 := x_le.rf v4
    refine ⟨none, v4, ⟨rfl, k⟩, hle_v4, ?_⟩
    intro p e s m args below meth c A H locs ls F hw hl
    obtain ⟨⟨hx, hb, hml, hown, hts⟩, hr, hlocks, hmn⟩ := id F
    exact xr_vret F rfl hw d_D_pass_96
  obtain ⟨rv, v9, hK, hle_u, w9⟩ := t_D_pass_L55 l Z u0 x0 x1 x2 x3 hx5 n3 y2 u k
  refine ⟨rv, v9, hK, hle_u, ?_⟩
  intro p e s m args below meth c A H locs ls F hw hl
  obtain ⟨⟨hx, hb, hml, hown, hts⟩, hr, hlocks, hmn⟩ := id F
  refine lv_aload_n hx hb d_D_pass_47 rfl (lv_at hl 0 rfl) ?_
  refine xr_get hx hb hts (xmu uws_D) hown hw h1 rfl (by decide) (hts _ (xm w_201)) (fun _ h9 => h9) d_D_pass_48 ?_
  refine lv_iconst (v := 1) hx hb d_D_pass_51 (by decide) ?_
  refine lv_isub hx hb d_D_pass_52 ?_
  refine lv_istore (lv' := [(4, .int y2), (0, .ref x0), (1, .int x1), (2, .int x2), (3, .int x3)]) hx hb d_D_pass_53 hl (by decide) (by subst ey2; rfl) (fun ls hl => ?_)
  exact w9 p e s m args below meth c A H locs ls F hw (lv_sub hl [1, 2, 3, 4, 0] rfl)
set_option maxRecDepth 100000 in
set_option maxHeartbeats 4000000 in
theorem c_D_pass (l : Launch) (Z : XZ) (x0 : Nat) (x1 : Int32) (x2 : Int32) (x3 : Int32) (u : PS) (K : PS → Prop) (k : p_D_pass x0 x1 x2 x3 u K) : ∃ (rv : Option Value) (u1 : PS), (kV K) rv u1 ∧ XMet l Z i_D_pass [.ref x0, .int x1, .int x2, .int x3] u rv u1 := by
  refine x_met (by decide) rfl (Nat.le_of_ble_eq_true rfl) ?_
  show XN l Z i_D_pass u (kV K) u 0 [(0, .ref x0), (1, .int x1), (2, .int x2), (3, .int x3)] []
  unfold p_D_pass at k
  obtain ⟨z_18, h1, k⟩ := k
  obtain ⟨n2, k⟩ := k
  have hx4 : ∀ (v3 : PS), (p_D_pass_J47 K x0 x1 x2 x3 v3) → XN l Z i_D_pass u (kV K) v3 47 [(0, .ref x0), (1, .int x1), (2, .int x2), (3, .int x3)] [] := by
    intro v3 k
    obtain ⟨rv, v9, hK, hle_v3, w9⟩ := t_D_pass_J47 l Z u x0 x1 x2 x3 v3 k
    refine ⟨rv, v9, hK, hle_v3, ?_⟩
    intro p e s m args below meth c A H locs ls F hw hl
    obtain ⟨⟨hx, hb, hml, hown, hts⟩, hr, hlocks, hmn⟩ := id F
    exact w9 p e s m args below meth c A H locs ls F hw (lv_sub hl [0, 1, 2, 3] rfl)
  obtain ⟨rv, v9, hK, hle_u, w9⟩ := t_D_pass_L6 l Z u x0 x1 x2 x3 hx4 n2 z_18 u k
  refine ⟨rv, v9, hK, hle_u, ?_⟩
  intro p e s m args below meth c A H locs ls F hw hl
  obtain ⟨⟨hx, hb, hml, hown, hts⟩, hr, hlocks, hmn⟩ := id F
  refine lv_aload_n hx hb d_D_pass_0 rfl (lv_at hl 0 rfl) ?_
  refine xr_get hx hb hts (xmu uws_D) hown hw h1 rfl (by decide) (hts _ (xm w_201)) (fun _ h9 => h9) d_D_pass_1 ?_
  refine lv_istore (lv' := [(4, .int z_18), (0, .ref x0), (1, .int x1), (2, .int x2), (3, .int x3)]) hx hb d_D_pass_4 hl (by decide) rfl (fun ls hl => ?_)
  exact w9 p e s m args below meth c A H locs ls F hw (lv_sub hl [1, 2, 3, 4, 0] rfl)
set_option maxRecDepth 100000 in
set_option maxHeartbeats 4000000 in
theorem c_D_putIn (l : Launch) (Z : XZ) (x0 : Nat) (x1 : Int32) (x2 : Int32) (u : PS) (K : PS → Prop) (k : p_D_putIn x0 x1 x2 u K) : ∃ (rv : Option Value) (u1 : PS), (kV K) rv u1 ∧ XMet l Z i_D_putIn [.ref x0, .int x1, .int x2] u rv u1 := by
  refine x_met (by decide) rfl (Nat.le_of_ble_eq_true rfl) ?_
  show XN l Z i_D_putIn u (kV K) u 0 [(0, .ref x0), (1, .int x1), (2, .int x2)] []
  unfold p_D_putIn at k
  obtain ⟨z_6, h1, k⟩ := k
  obtain ⟨z_7, h2, k⟩ := k
  obtain ⟨u_8, h3, k⟩ := k
  obtain ⟨z_9, h4, k⟩ := k
  obtain ⟨u_10, h5, k⟩ := k
  have hle_u_10 : x_le u_10 u_10 := x_le.rf u_10
  have hle_u_8 : x_le u_8 u_10 := (h5.le).tr hle_u_10
  have hle_u : x_le u u_10 := (h3.le).tr hle_u_8
  refine ⟨none, u_10, ⟨rfl, k⟩, hle_u, ?_⟩
  intro p e s m args below meth c A H locs ls F hw hl
  obtain ⟨⟨hx, hb, hml, hown, hts⟩, hr, hlocks, hmn⟩ := id F
  refine lv_aload_n hx hb d_D_putIn_0 rfl (lv_at hl 0 rfl) ?_
  refine xr_get hx hb hts (xmu uws_D) hown hw h1 rfl (by decide) (hts _ (xm w_195)) (fun _ h9 => h9) d_D_putIn_1 ?_
  refine lv_iload_n hx hb d_D_putIn_4 rfl (lv_at hl 2 rfl) ?_
  refine lv_aload_n hx hb d_D_putIn_5 rfl (lv_at hl 0 rfl) ?_
  refine xr_get hx hb hts (xmu uws_D) hown hw h2 rfl (by decide) (hts _ (xm w_195)) (fun _ h9 => h9) d_D_putIn_6 ?_
  refine lv_iload_n hx hb d_D_putIn_9 rfl (lv_at hl 2 rfl) ?_
  refine lv_iconst (v := 1) hx hb d_D_putIn_10 (by decide) ?_
  refine lv_iadd hx hb d_D_putIn_11 ?_
  refine lv_bipush (v := 9) hx hb d_D_putIn_12 (by decide) ?_
  refine lv_iload_n hx hb d_D_putIn_14 rfl (lv_at hl 2 rfl) ?_
  refine lv_isub hx hb d_D_putIn_15 ?_
  refine xr_copy (rest := []) hx hb (hml.trans hl.1.symm) hown (hts _ (xm w_408)) (hts _ (xm w_307)) (hts _ (xm w_306)) (hts _ (xm w_15)) hw h3 (Nat.le_of_ble_eq_true rfl) (Nat.le_of_ble_eq_true rfl) d_D_putIn_16 (fun H locs hw => ?_)
  refine lv_aload_n hx hb d_D_putIn_19 rfl (lv_at hl 0 rfl) ?_
  refine xr_get hx hb hts (xmu uws_D) hown hw h4 rfl (by decide) (hts _ (xm w_195)) (fun _ h9 => h9) d_D_putIn_20 ?_
  refine lv_iload_n hx hb d_D_putIn_23 rfl (lv_at hl 2 rfl) ?_
  refine lv_iload_n hx hb d_D_putIn_24 rfl (lv_at hl 1 rfl) ?_
  refine xr_iast hx hb hw h5 d_D_putIn_25 (fun H locs hw => ?_)
  exact xr_vret F rfl hw d_D_putIn_26
set_option maxRecDepth 100000 in
set_option maxHeartbeats 4000000 in
theorem t_D_moveTo_J27 (l : Launch) (Z : XZ) (u0 : PS) {K : PS → Prop} (x0 : Nat) (x1 : Int32) (x2 : Int32) (u : PS) (k : (p_D_moveTo_J27 K x0 x1 x2 u)) : XN l Z i_D_moveTo u0 (kV K) u 27 [(0, .ref x0), (1, .int x1), (2, .int x2)] [] := by
  unfold p_D_moveTo_J27 at k
  obtain ⟨h2, k⟩ := k
  obtain ⟨_, u_13, ⟨rfl, k⟩, hM1⟩ := c_D_putIn l Z x0 x1 x2 u _ k
  have hle_u_13 : x_le u_13 u_13 := x_le.rf u_13
  have hle_u : x_le u u_13 := (hM1.1).tr hle_u_13
  refine ⟨none, u_13, ⟨rfl, k⟩, hle_u, ?_⟩
  intro p e s m args below meth c A H locs ls F hw hl
  obtain ⟨⟨hx, hb, hml, hown, hts⟩, hr, hlocks, hmn⟩ := id F
  refine lv_aload_n hx hb d_D_moveTo_27 rfl (lv_at hl 0 rfl) ?_
  refine lv_iload_n hx hb d_D_moveTo_28 rfl (lv_at hl 1 rfl) ?_
  refine lv_iload_n hx hb d_D_moveTo_29 rfl (lv_at hl 2 rfl) ?_
  refine xr_cV (As := [.int x1, .int x2]) (rest := []) ⟨hx, hb, hml, hown, hts⟩ hw hM1 hle_u_13 (fun _ _ => ⟨callB_of 2 hts (xgood w_498) rfl rfl rfl (hts _ (xm w_3)) (hts _ (xm w_495)) ⟨by decide, by decide, by decide +kernel⟩ ⟨Nat.le_of_ble_eq_true rfl, Nat.le_of_ble_eq_true rfl⟩, (hts _ (xm w_497)), (hts _ (xm wp_29))⟩) (qc := (R_D, F_D, 13)) rfl rfl h2 rfl hl.1 rfl (Nat.le_of_ble_eq_true rfl) d_D_moveTo_30 (fun H locs hw => ?_)
  refine W.eq (g2 := F0 m 33 ls []) rfl ?_
  exact xr_vret F rfl hw d_D_moveTo_33
set_option maxRecDepth 100000 in
set_option maxHeartbeats 4000000 in
theorem c_D_moveTo (l : Launch) (Z : XZ) (x0 : Nat) (x1 : Int32) (x2 : Int32) (u : PS) (K : PS → Prop) (k : p_D_moveTo x0 x1 x2 u K) : ∃ (rv : Option Value) (u1 : PS), (kV K) rv u1 ∧ XMet l Z i_D_moveTo [.ref x0, .int x1, .int x2] u rv u1 := by
  refine x_met (by decide) rfl (Nat.le_of_ble_eq_true rfl) ?_
  show XN l Z i_D_moveTo u (kV K) u 0 [(0, .ref x0), (1, .int x1), (2, .int x2)] []
  unfold p_D_moveTo at k
  obtain ⟨h2, k⟩ := k
  obtain ⟨_, u_9, ⟨rfl, k⟩, hM1⟩ := c_D_takeOut l Z x0 x1 u _ k
  obtain ⟨z_10, h3, k⟩ := k
  obtain ⟨h5, k⟩ := k
  obtain ⟨_, u_11, ⟨r_12, rfl, k⟩, hM4⟩ := c_N_asksFor l Z z_10 x1 u_9 _ k
  by_cases hc6 : r_12 ≤ 0
  · have k := k.1 hc6
    obtain ⟨rv, v9, hK, hle_u_11, w9⟩ := t_D_moveTo_J27 l Z u x0 x1 x2 u_11 k
    have hle_u_9 : x_le u_9 v9 := (hM4.1).tr hle_u_11
    have hle_u : x_le u v9 := (hM1.1).tr hle_u_9
    refine ⟨rv, v9, hK, hle_u, ?_⟩
    intro p e s m args below meth c A H locs ls F hw hl
    obtain ⟨⟨hx, hb, hml, hown, hts⟩, hr, hlocks, hmn⟩ := id F
    refine lv_aload_n hx hb d_D_moveTo_0 rfl (lv_at hl 0 rfl) ?_
    refine lv_iload_n hx hb d_D_moveTo_1 rfl (lv_at hl 1 rfl) ?_
    refine xr_cV (As := [.int x1]) (rest := []) ⟨hx, hb, hml, hown, hts⟩ hw hM1 hle_u_9 (fun _ _ => ⟨callB_of 1 hts (xgood w_407) rfl rfl rfl (hts _ (xm w_3)) (hts _ (xm w_404)) ⟨by decide, by decide, by decide +kernel⟩ ⟨Nat.le_of_ble_eq_true rfl, Nat.le_of_ble_eq_true rfl⟩, (hts _ (xm w_406)), (hts _ (xm wp_18))⟩) (qc := (R_D, F_D, 13)) rfl rfl h2 rfl hl.1 rfl (Nat.le_of_ble_eq_true rfl) d_D_moveTo_2 (fun H locs hw => ?_)
    refine W.eq (g2 := F0 m 5 ls []) rfl ?_
    refine lv_aload_n hx hb d_D_moveTo_5 rfl (lv_at hl 0 rfl) ?_
    refine xr_get hx hb hts (xmu uws_D) hown hw h3 rfl (by decide) (hts _ (xm w_192)) (fun _ h9 => h9) d_D_moveTo_6 ?_
    refine lv_iload_n hx hb d_D_moveTo_9 rfl (lv_at hl 1 rfl) ?_
    refine xr_cV (As := [.int x1]) (rest := []) ⟨hx, hb, hml, hown, hts⟩ hw hM4 hle_u_11 (fun _ _ => ⟨callB_of 1 hts (xgood w_395) rfl rfl rfl (hts _ (xm w_4)) (hts _ (xm w_392)) ⟨by decide, by decide, by decide +kernel⟩ ⟨Nat.le_of_ble_eq_true rfl, Nat.le_of_ble_eq_true rfl⟩, (hts _ (xm w_393)), (hts _ (xm w_394))⟩) (qc := (R_N, F_N, 13)) rfl rfl h5 rfl hl.1 rfl (Nat.le_of_ble_eq_true rfl) d_D_moveTo_10 (fun H locs hw => ?_)
    refine W.eq (g2 := F0 m 13 ls [.int r_12]) rfl ?_
    refine lv_if_le (tgt := 27) hx hb d_D_moveTo_13 (by decide) (fun _ => ?_) (fun c9 => absurd hc6 c9)
    exact w9 p e s m args below meth c A H locs ls F hw (lv_sub hl [0, 1, 2] rfl)
  · have k := k.2 hc6
    obtain ⟨h8, k⟩ := k
    obtain ⟨_, u_14, ⟨r_15, rfl, k⟩, hM7⟩ := c_D_matesOf l Z x0 x1 u_11 _ k
    obtain ⟨h10, k⟩ := k
    obtain ⟨_, u_16, ⟨rfl, k⟩, hM9⟩ := c_D_pass l Z x0 x1 x2 r_15 u_14 _ k
    obtain ⟨rv, v9, hK, hle_u_16, w9⟩ := t_D_moveTo_J27 l Z u x0 x1 x2 u_16 k
    have hle_u_14 : x_le u_14 v9 := (hM9.1).tr hle_u_16
    have hle_u_11 : x_le u_11 v9 := (hM7.1).tr hle_u_14
    have hle_u_9 : x_le u_9 v9 := (hM4.1).tr hle_u_11
    have hle_u : x_le u v9 := (hM1.1).tr hle_u_9
    refine ⟨rv, v9, hK, hle_u, ?_⟩
    intro p e s m args below meth c A H locs ls F hw hl
    obtain ⟨⟨hx, hb, hml, hown, hts⟩, hr, hlocks, hmn⟩ := id F
    refine lv_aload_n hx hb d_D_moveTo_0 rfl (lv_at hl 0 rfl) ?_
    refine lv_iload_n hx hb d_D_moveTo_1 rfl (lv_at hl 1 rfl) ?_
    refine xr_cV (As := [.int x1]) (rest := []) ⟨hx, hb, hml, hown, hts⟩ hw hM1 hle_u_9 (fun _ _ => ⟨callB_of 1 hts (xgood w_407) rfl rfl rfl (hts _ (xm w_3)) (hts _ (xm w_404)) ⟨by decide, by decide, by decide +kernel⟩ ⟨Nat.le_of_ble_eq_true rfl, Nat.le_of_ble_eq_true rfl⟩, (hts _ (xm w_406)), (hts _ (xm wp_18))⟩) (qc := (R_D, F_D, 13)) rfl rfl h2 rfl hl.1 rfl (Nat.le_of_ble_eq_true rfl) d_D_moveTo_2 (fun H locs hw => ?_)
    refine W.eq (g2 := F0 m 5 ls []) rfl ?_
    refine lv_aload_n hx hb d_D_moveTo_5 rfl (lv_at hl 0 rfl) ?_
    refine xr_get hx hb hts (xmu uws_D) hown hw h3 rfl (by decide) (hts _ (xm w_192)) (fun _ h9 => h9) d_D_moveTo_6 ?_
    refine lv_iload_n hx hb d_D_moveTo_9 rfl (lv_at hl 1 rfl) ?_
    refine xr_cV (As := [.int x1]) (rest := []) ⟨hx, hb, hml, hown, hts⟩ hw hM4 hle_u_11 (fun _ _ => ⟨callB_of 1 hts (xgood w_395) rfl rfl rfl (hts _ (xm w_4)) (hts _ (xm w_392)) ⟨by decide, by decide, by decide +kernel⟩ ⟨Nat.le_of_ble_eq_true rfl, Nat.le_of_ble_eq_true rfl⟩, (hts _ (xm w_393)), (hts _ (xm w_394))⟩) (qc := (R_N, F_N, 13)) rfl rfl h5 rfl hl.1 rfl (Nat.le_of_ble_eq_true rfl) d_D_moveTo_10 (fun H locs hw => ?_)
    refine W.eq (g2 := F0 m 13 ls [.int r_12]) rfl ?_
    refine lv_if_le (tgt := 27) hx hb d_D_moveTo_13 (by decide) (fun c9 => absurd c9 hc6) (fun _ => ?_)
    refine lv_aload_n hx hb d_D_moveTo_16 rfl (lv_at hl 0 rfl) ?_
    refine lv_iload_n hx hb d_D_moveTo_17 rfl (lv_at hl 1 rfl) ?_
    refine lv_iload_n hx hb d_D_moveTo_18 rfl (lv_at hl 2 rfl) ?_
    refine lv_aload_n hx hb d_D_moveTo_19 rfl (lv_at hl 0 rfl) ?_
    refine lv_iload_n hx hb d_D_moveTo_20 rfl (lv_at hl 1 rfl) ?_
    refine xr_cV (As := [.int x1]) (rest := [.int x2, .int x1, .ref x0]) ⟨hx, hb, hml, hown, hts⟩ hw hM7 hle_u_14 (fun _ _ => ⟨callB_of 1 hts (xgood w_412) rfl rfl rfl (hts _ (xm w_3)) (hts _ (xm w_409)) ⟨by decide, by decide, by decide +kernel⟩ ⟨Nat.le_of_ble_eq_true rfl, Nat.le_of_ble_eq_true rfl⟩, (hts _ (xm w_411)), (hts _ (xm wp_19))⟩) (qc := (R_D, F_D, 13)) rfl rfl h8 rfl hl.1 rfl (Nat.le_of_ble_eq_true rfl) d_D_moveTo_21 (fun H locs hw => ?_)
    refine W.eq (g2 := F0 m 24 ls [.int r_15, .int x2, .int x1, .ref x0]) rfl ?_
    refine xr_cV (As := [.int x1, .int x2, .int r_15]) (rest := []) ⟨hx, hb, hml, hown, hts⟩ hw hM9 hle_u_16 (fun _ _ => ⟨callB_of 3 hts (xgood w_480) rfl rfl rfl (hts _ (xm w_3)) (hts _ (xm w_477)) ⟨by decide, by decide, by decide +kernel⟩ ⟨Nat.le_of_ble_eq_true rfl, Nat.le_of_ble_eq_true rfl⟩, (hts _ (xm w_479)), (hts _ (xm wp_26))⟩) (qc := (R_D, F_D, 13)) rfl rfl h10 rfl hl.1 rfl (Nat.le_of_ble_eq_true rfl) d_D_moveTo_24 (fun H locs hw => ?_)
    refine W.eq (g2 := F0 m 27 ls []) rfl ?_
    exact w9 p e s m args below meth c A H locs ls F hw (lv_sub hl [0, 1, 2] rfl)
set_option maxRecDepth 100000 in
set_option maxHeartbeats 4000000 in
theorem t_D_rise_J53 (l : Launch) (Z : XZ) (u0 : PS) {Kv : Option Value → PS → Prop} {R : Int32 → Int32 → Int32 → PS → Prop} {E59 : Int32 → Int32 → PS → Prop} (x0 : Nat) (x1 : Int32) (x2 : Int32) (x3 : Int32) (x4 : Int32) (x5 : Int32) (u : PS) (hR : ∀ (y3 : Int32) (y4 : Int32) (y5 : Int32) (v : PS), R y3 y4 y5 v → XN l Z i_D_rise u0 Kv v 8 [(0, .ref x0), (1, .int x1), (2, .int x2), (3, .int y3), (4, .int y4), (5, .int y5)] []) (hE59 : ∀ (y3 : Int32) (y4 : Int32) (v : PS), E59 y3 y4 v → XN l Z i_D_rise u0 Kv v 59 [(0, .ref x0), (1, .int x1), (2, .int x2), (3, .int y3), (4, .int y4)] []) (k : (p_D_rise_J53 R E59 x0 x1 x2 x3 x4 x5 u)) : XN l Z i_D_rise u0 Kv u 53 [(0, .ref x0), (1, .int x1), (2, .int x2), (3, .int x3), (4, .int x4), (5, .int x5)] [] := by
  unfold p_D_rise_J53 at k
  obtain ⟨y1, ey1⟩ : ∃ y9 : Int32, y9 = x5 + 1 := ⟨_, rfl⟩
  have k := k y1 ey1
  obtain ⟨rv, v9, hK, hle_u, w9⟩ := hR x3 x4 y1 u k
  refine ⟨rv, v9, hK, hle_u, ?_⟩
  intro p e s m args below meth c A H locs ls F hw hl
  obtain ⟨⟨hx, hb, hml, hown, hts⟩, hr, hlocks, hmn⟩ := id F
  refine lv_iinc (v := y1) (lv' := [(5, .int y1), (0, .ref x0), (1, .int x1), (2, .int x2), (3, .int x3), (4, .int x4)]) hx hb d_D_rise_53 hl (k := 5) rfl (by subst ey1; rfl) (by decide) rfl (fun ls hl => ?_)
  refine lv_goto (tgt := 8) hx hb d_D_rise_56 (by decide) ?_
  exact w9 p e s m args below meth c A H locs ls F hw (lv_sub hl [1, 2, 3, 4, 5, 0] rfl)
set_option maxRecDepth 100000 in
set_option maxHeartbeats 4000000 in
theorem t_D_rise_L8 (l : Launch) (Z : XZ) (u0 : PS) {Kv : Option Value → PS → Prop} {E59 : Int32 → Int32 → PS → Prop} (x0 : Nat) (x1 : Int32) (x2 : Int32) (hE59 : ∀ (y3 : Int32) (y4 : Int32) (v : PS), E59 y3 y4 v → XN l Z i_D_rise u0 Kv v 59 [(0, .ref x0), (1, .int x1), (2, .int x2), (3, .int y3), (4, .int y4)] []) : ∀ (n : Nat) (x3 : Int32) (x4 : Int32) (x5 : Int32) (u : PS), p_D_rise_L8 x0 x1 x2 E59 n x3 x4 x5 u → XN l Z i_D_rise u0 Kv u 8 [(0, .ref x0), (1, .int x1), (2, .int x2), (3, .int x3), (4, .int x4), (5, .int x5)] [] := by
  intro n
  induction n with
  | zero => intro x3 x4 x5 u k; exact False.elim k
  | succ n ih =>
    intro x3 x4 x5 u k
    rw [p_D_rise_L8] at k
    obtain ⟨z_46, h1, k⟩ := k
    by_cases hc2 : z_46 ≤ x5
    · have k := k.1 hc2
      obtain ⟨rv, v9, hK, hle_u, w9⟩ := hE59 x3 x4 u k
      refine ⟨rv, v9, hK, hle_u, ?_⟩
      intro p e s m args below meth c A H locs ls F hw hl
      obtain ⟨⟨hx, hb, hml, hown, hts⟩, hr, hlocks, hmn⟩ := id F
      refine lv_iload hx hb d_D_rise_8 (lv_at hl 5 rfl) ?_
      refine lv_aload_n hx hb d_D_rise_10 rfl (lv_at hl 0 rfl) ?_
      refine xr_get hx hb hts (xmu uws_D) hown hw h1 rfl (by decide) (hts _ (xm w_201)) (fun _ h9 => h9) d_D_rise_11 ?_
      refine lv_icmp_ge (tgt := 59) hx hb d_D_rise_14 (by decide) (fun _ => ?_) (fun c9 => absurd hc2 c9)
      exact w9 p e s m args below meth c A H locs ls F hw (lv_sub hl [0, 1, 2, 3, 4] rfl)
    · have k := k.2 hc2
      obtain ⟨z_47, h3, k⟩ := k
      obtain ⟨z_48, h4, k⟩ := k
      by_cases hc5 : ((x2 >>> (z_48 &&& 31)) &&& (1 : Int32)) = 1
      · have k := k.2 hc5
        obtain ⟨z_49, h6, k⟩ := k
        obtain ⟨h8, k⟩ := k
        obtain ⟨_, u_50, ⟨r_51, rfl, k⟩, hM7⟩ := c_N_asksFor l Z z_49 z_48 u _ k
        obtain ⟨y9, ey9⟩ : ∃ y9 : Int32, y9 = (x3 + (r_51 - (1 : Int32))) := ⟨_, rfl⟩
        have k := k y9 ey9
        obtain ⟨y10, ey10⟩ : ∃ y9 : Int32, y9 = x4 + 1 := ⟨_, rfl⟩
        have k := k y10 ey10
        obtain ⟨rv, v9, hK, hle_u_50, w9⟩ := t_D_rise_J53 l Z u0 x0 x1 x2 y9 y10 x5 u_50 ih hE59 k
        have hle_u : x_le u v9 := (hM7.1).tr hle_u_50
        refine ⟨rv, v9, hK, hle_u, ?_⟩
        intro p e s m args below meth c A H locs ls F hw hl
        obtain ⟨⟨hx, hb, hml, hown, hts⟩, hr, hlocks, hmn⟩ := id F
        refine lv_iload hx hb d_D_rise_8 (lv_at hl 5 rfl) ?_
        refine lv_aload_n hx hb d_D_rise_10 rfl (lv_at hl 0 rfl) ?_
        refine xr_get hx hb hts (xmu uws_D) hown hw h1 rfl (by decide) (hts _ (xm w_201)) (fun _ h9 => h9) d_D_rise_11 ?_
        refine lv_icmp_ge (tgt := 59) hx hb d_D_rise_14 (by decide) (fun c9 => absurd c9 hc2) (fun _ => ?_)
        refine lv_aload_n hx hb d_D_rise_17 rfl (lv_at hl 0 rfl) ?_
        refine xr_get hx hb hts (xmu uws_D) hown hw h3 rfl (by decide) (hts _ (xm w_195)) (fun _ h9 => h9) d_D_rise_18 ?_
        refine lv_iload hx hb d_D_rise_21 (lv_at hl 5 rfl) ?_
        refine xr_iald hx hb hw h4 d_D_rise_23 ?_
        refine lv_istore (lv' := [(6, .int z_48), (0, .ref x0), (1, .int x1), (2, .int x2), (3, .int x3), (4, .int x4), (5, .int x5)]) hx hb d_D_rise_24 hl (by decide) rfl (fun ls hl => ?_)
        refine lv_iload_n hx hb d_D_rise_26 rfl (lv_at hl 3 rfl) ?_
        refine lv_iload hx hb d_D_rise_27 (lv_at hl 0 rfl) ?_
        refine lv_ishr hx hb d_D_rise_29 ?_
        refine lv_iconst (v := 1) hx hb d_D_rise_30 (by decide) ?_
        refine lv_iand hx hb d_D_rise_31 ?_
        refine lv_iconst (v := 1) hx hb d_D_rise_32 (by decide) ?_
        refine lv_icmp_ne (tgt := 53) hx hb d_D_rise_33 (by decide) (fun c9 => absurd hc5 c9) (fun _ => ?_)
        refine lv_iload_n hx hb d_D_rise_36 rfl (lv_at hl 4 rfl) ?_
        refine lv_aload_n hx hb d_D_rise_37 rfl (lv_at hl 1 rfl) ?_
        refine xr_get hx hb hts (xmu uws_D) hown hw h6 rfl (by decide) (hts _ (xm w_192)) (fun _ h9 => h9) d_D_rise_38 ?_
        refine lv_iload hx hb d_D_rise_41 (lv_at hl 0 rfl) ?_
        refine xr_cV (As := [.int z_48]) (rest := [.int x3]) ⟨hx, hb, hml, hown, hts⟩ hw hM7 hle_u_50 (fun _ _ => ⟨callB_of 1 hts (xgood w_395) rfl rfl rfl (hts _ (xm w_4)) (hts _ (xm w_392)) ⟨by decide, by decide, by decide +kernel⟩ ⟨Nat.le_of_ble_eq_true rfl, Nat.le_of_ble_eq_true rfl⟩, (hts _ (xm w_393)), (hts _ (xm w_394))⟩) (qc := (R_N, F_N, 13)) rfl rfl h8 rfl hl.1 rfl (Nat.le_of_ble_eq_true rfl) d_D_rise_43 (fun H locs hw => ?_)
        refine W.eq (g2 := F0 m 46 ls [.int r_51, .int x3]) rfl ?_
        refine lv_iconst (v := 1) hx hb d_D_rise_46 (by decide) ?_
        refine lv_isub hx hb d_D_rise_47 ?_
        refine lv_iadd hx hb d_D_rise_48 ?_
        refine lv_istore_n (lv' := [(3, .int y9), (6, .int z_48), (0, .ref x0), (1, .int x1), (2, .int x2), (4, .int x4), (5, .int x5)]) hx hb d_D_rise_49 rfl hl (by decide) (by subst ey9; rfl) (fun ls hl => ?_)
        refine lv_iinc (v := y10) (lv' := [(4, .int y10), (3, .int y9), (6, .int z_48), (0, .ref x0), (1, .int x1), (2, .int x2), (5, .int x5)]) hx hb d_D_rise_50 hl (k := 5) rfl (by subst ey10; rfl) (by decide) rfl (fun ls hl => ?_)
        exact w9 p e s m args below meth c A H locs ls F hw (lv_sub hl [3, 4, 5, 1, 0, 6] rfl)
      · have k := k.1 hc5
        obtain ⟨rv, v9, hK, hle_u, w9⟩ := t_D_rise_J53 l Z u0 x0 x1 x2 x3 x4 x5 u ih hE59 k
        refine ⟨rv, v9, hK, hle_u, ?_⟩
        intro p e s m args below meth c A H locs ls F hw hl
        obtain ⟨⟨hx, hb, hml, hown, hts⟩, hr, hlocks, hmn⟩ := id F
        refine lv_iload hx hb d_D_rise_8 (lv_at hl 5 rfl) ?_
        refine lv_aload_n hx hb d_D_rise_10 rfl (lv_at hl 0 rfl) ?_
        refine xr_get hx hb hts (xmu uws_D) hown hw h1 rfl (by decide) (hts _ (xm w_201)) (fun _ h9 => h9) d_D_rise_11 ?_
        refine lv_icmp_ge (tgt := 59) hx hb d_D_rise_14 (by decide) (fun c9 => absurd c9 hc2) (fun _ => ?_)
        refine lv_aload_n hx hb d_D_rise_17 rfl (lv_at hl 0 rfl) ?_
        refine xr_get hx hb hts (xmu uws_D) hown hw h3 rfl (by decide) (hts _ (xm w_195)) (fun _ h9 => h9) d_D_rise_18 ?_
        refine lv_iload hx hb d_D_rise_21 (lv_at hl 5 rfl) ?_
        refine xr_iald hx hb hw h4 d_D_rise_23 ?_
        refine lv_istore (lv' := [(6, .int z_48), (0, .ref x0), (1, .int x1), (2, .int x2), (3, .int x3), (4, .int x4), (5, .int x5)]) hx hb d_D_rise_24 hl (by decide) rfl (fun ls hl => ?_)
        refine lv_iload_n hx hb d_D_rise_26 rfl (lv_at hl 3 rfl) ?_
        refine lv_iload hx hb d_D_rise_27 (lv_at hl 0 rfl) ?_
        refine lv_ishr hx hb d_D_rise_29 ?_
        refine lv_iconst (v := 1) hx hb d_D_rise_30 (by decide) ?_
        refine lv_iand hx hb d_D_rise_31 ?_
        refine lv_iconst (v := 1) hx hb d_D_rise_32 (by decide) ?_
        refine lv_icmp_ne (tgt := 53) hx hb d_D_rise_33 (by decide) (fun _ => ?_) (fun c9 => absurd c9 hc5)
        exact w9 p e s m args below meth c A H locs ls F hw (lv_sub hl [1, 2, 3, 4, 5, 6] rfl)
set_option maxRecDepth 100000 in
set_option maxHeartbeats 4000000 in
theorem t_D_rise_J199 (l : Launch) (Z : XZ) (u0 : PS) {K : PS → Prop} (x0 : Nat) (x4 : Int32) (x5 : Int32) (u : PS) (k : (p_D_rise_J199 K x0 x4 x5 u)) : XN l Z i_D_rise u0 (kV K) u 199 [(0, .ref x0), (4, .int x4), (5, .int x5)] [] := by
  unfold p_D_rise_J199 at k
  by_cases hc1 : x4 = 0
  · have k := k.2 hc1
    obtain ⟨z_53, h2, k⟩ := k
    by_cases hc3 : z_53 < x5
    · have k := k.1 hc3
      have hle_u : x_le u u := x_le.rf u
      refine ⟨none, u, ⟨rfl, k⟩, hle_u, ?_⟩
      intro p e s m args below meth c A H locs ls F hw hl
      obtain ⟨⟨hx, hb, hml, hown, hts⟩, hr, hlocks, hmn⟩ := id F
      refine lv_iload hx hb d_D_rise_199 (lv_at hl 1 rfl) ?_
      refine lv_if_ne (tgt := 218) hx hb d_D_rise_201 (by decide) (fun c9 => absurd hc1 c9) (fun _ => ?_)
      refine lv_iload hx hb d_D_rise_204 (lv_at hl 2 rfl) ?_
      refine lv_aload_n hx hb d_D_rise_206 rfl (lv_at hl 0 rfl) ?_
      refine xr_get hx hb hts (xmu uws_D) hown hw h2 rfl (by decide) (hts _ (xm w_203)) (fun _ h9 => h9) d_D_rise_207 ?_
      refine lv_icmp_gt (tgt := 218) hx hb d_D_rise_210 (by decide) (fun _ => ?_) (fun c9 => absurd hc3 c9)
      exact xr_vret F rfl hw d_D_rise_218
    · have k := k.2 hc3
      obtain ⟨u_54, h4, k⟩ := k
      have hle_u_54 : x_le u_54 u_54 := x_le.rf u_54
      have hle_u : x_le u u_54 := (h4.le).tr hle_u_54
      refine ⟨none, u_54, ⟨rfl, k⟩, hle_u, ?_⟩
      intro p e s m args below meth c A H locs ls F hw hl
      obtain ⟨⟨hx, hb, hml, hown, hts⟩, hr, hlocks, hmn⟩ := id F
      refine lv_iload hx hb d_D_rise_199 (lv_at hl 1 rfl) ?_
      refine lv_if_ne (tgt := 218) hx hb d_D_rise_201 (by decide) (fun c9 => absurd hc1 c9) (fun _ => ?_)
      refine lv_iload hx hb d_D_rise_204 (lv_at hl 2 rfl) ?_
      refine lv_aload_n hx hb d_D_rise_206 rfl (lv_at hl 0 rfl) ?_
      refine xr_get hx hb hts (xmu uws_D) hown hw h2 rfl (by decide) (hts _ (xm w_203)) (fun _ h9 => h9) d_D_rise_207 ?_
      refine lv_icmp_gt (tgt := 218) hx hb d_D_rise_210 (by decide) (fun c9 => absurd c9 hc3) (fun _ => ?_)
      refine lv_aload_n hx hb d_D_rise_213 rfl (lv_at hl 0 rfl) ?_
      refine lv_iconst (v := 0) hx hb d_D_rise_214 (by decide) ?_
      refine xr_put (ty := .int) hx hb hts (xmu uws_D) tyc_D tyc_D_ok nmc_D hown hw h4 rfl (by decide) (hts _ (xm w_202)) (fun _ h9 => h9) rfl (by decide +kernel) rfl rfl d_D_rise_215 (fun H locs hw => ?_)
      exact xr_vret F rfl hw d_D_rise_218
  · have k := k.1 hc1
    have hle_u : x_le u u := x_le.rf u
    refine ⟨none, u, ⟨rfl, k⟩, hle_u, ?_⟩
    intro p e s m args below meth c A H locs ls F hw hl
    obtain ⟨⟨hx, hb, hml, hown, hts⟩, hr, hlocks, hmn⟩ := id F
    refine lv_iload hx hb d_D_rise_199 (lv_at hl 1 rfl) ?_
    refine lv_if_ne (tgt := 218) hx hb d_D_rise_201 (by decide) (fun _ => ?_) (fun c9 => absurd c9 hc1)
    exact xr_vret F rfl hw d_D_rise_218
set_option maxRecDepth 100000 in
set_option maxHeartbeats 4000000 in
theorem t_D_rise_J186 (l : Launch) (Z : XZ) (u0 : PS) {Kv : Option Value → PS → Prop} {R : Int32 → Int32 → Int32 → Int32 → PS → Prop} {E192 : Int32 → Int32 → PS → Prop} (x0 : Nat) (x2 : Int32) (x3 : Int32) (x4 : Int32) (x5 : Int32) (x6 : Int32) (u : PS) (hR : ∀ (y3 : Int32) (y4 : Int32) (y5 : Int32) (y6 : Int32) (v : PS), R y3 y4 y5 y6 v → XN l Z i_D_rise u0 Kv v 86 [(0, .ref x0), (2, .int x2), (3, .int y3), (4, .int y4), (5, .int y5), (6, .int y6)] []) (hE192 : ∀ (y4 : Int32) (y5 : Int32) (v : PS), E192 y4 y5 v → XN l Z i_D_rise u0 Kv v 192 [(0, .ref x0), (4, .int y4), (5, .int y5)] []) (k : (p_D_rise_J186 R E192 x0 x2 x3 x4 x5 x6 u)) : XN l Z i_D_rise u0 Kv u 186 [(0, .ref x0), (2, .int x2), (3, .int x3), (4, .int x4), (5, .int x5), (6, .int x6)] [] := by
  unfold p_D_rise_J186 at k
  obtain ⟨y1, ey1⟩ : ∃ y9 : Int32, y9 = x6 + (-1) := ⟨_, rfl⟩
  have k := k y1 ey1
  obtain ⟨rv, v9, hK, hle_u, w9⟩ := hR x3 x4 x5 y1 u k
  refine ⟨rv, v9, hK, hle_u, ?_⟩
  intro p e s m args below meth c A H locs ls F hw hl
  obtain ⟨⟨hx, hb, hml, hown, hts⟩, hr, hlocks, hmn⟩ := id F
  refine lv_iinc (v := y1) (lv' := [(6, .int y1), (0, .ref x0), (2, .int x2), (3, .int x3), (4, .int x4), (5, .int x5)]) hx hb d_D_rise_186 hl (k := 5) rfl (by subst ey1; rfl) (by decide) rfl (fun ls hl => ?_)
  refine lv_goto (tgt := 86) hx hb d_D_rise_189 (by decide) ?_
  exact w9 p e s m args below meth c A H locs ls F hw (lv_sub hl [1, 2, 3, 4, 5, 0] rfl)
set_option maxRecDepth 100000 in
set_option maxHeartbeats 4000000 in
theorem t_D_rise_J165 (l : Launch) (Z : XZ) (u0 : PS) {Kv : Option Value → PS → Prop} {R : Int32 → Int32 → Int32 → Int32 → PS → Prop} {E192 : Int32 → Int32 → PS → Prop} (x0 : Nat) (x2 : Int32) (x3 : Int32) (x4 : Int32) (x5 : Int32) (x6 : Int32) (u : PS) (hR : ∀ (y3 : Int32) (y4 : Int32) (y5 : Int32) (y6 : Int32) (v : PS), R y3 y4 y5 y6 v → XN l Z i_D_rise u0 Kv v 86 [(0, .ref x0), (2, .int x2), (3, .int y3), (4, .int y4), (5, .int y5), (6, .int y6)] []) (hE192 : ∀ (y4 : Int32) (y5 : Int32) (v : PS), E192 y4 y5 v → XN l Z i_D_rise u0 Kv v 192 [(0, .ref x0), (4, .int y4), (5, .int y5)] []) (k : (p_D_rise_J165 R E192 x0 x2 x3 x4 x5 x6 u)) : XN l Z i_D_rise u0 Kv u 165 [(0, .ref x0), (2, .int x2), (3, .int x3), (4, .int x4), (5, .int x5), (6, .int x6)] [] := by
  unfold p_D_rise_J165 at k
  obtain ⟨z_70, h1, k⟩ := k
  by_cases hc2 : z_70 < x5
  · have k := k.1 hc2
    obtain ⟨rv, v9, hK, hle_u, w9⟩ := t_D_rise_J186 l Z u0 x0 x2 x3 x4 x5 x6 u hR hE192 k
    refine ⟨rv, v9, hK, hle_u, ?_⟩
    intro p e s m args below meth c A H locs ls F hw hl
    obtain ⟨⟨hx, hb, hml, hown, hts⟩, hr, hlocks, hmn⟩ := id F
    refine lv_iload hx hb d_D_rise_165 (lv_at hl 4 rfl) ?_
    refine lv_aload_n hx hb d_D_rise_167 rfl (lv_at hl 0 rfl) ?_
    refine xr_get hx hb hts (xmu uws_D) hown hw h1 rfl (by decide) (hts _ (xm w_203)) (fun _ h9 => h9) d_D_rise_168 ?_
    refine lv_icmp_gt (tgt := 186) hx hb d_D_rise_171 (by decide) (fun _ => ?_) (fun c9 => absurd hc2 c9)
    exact w9 p e s m args below meth c A H locs ls F hw (lv_sub hl [0, 1, 2, 3, 4, 5] rfl)
  · have k := k.2 hc2
    obtain ⟨u_71, h3, k⟩ := k
    obtain ⟨u_72, h4, k⟩ := k
    obtain ⟨rv, v9, hK, hle_u_72, w9⟩ := t_D_rise_J186 l Z u0 x0 x2 x3 x4 x5 x6 u_72 hR hE192 k
    have hle_u_71 : x_le u_71 v9 := (h4.le).tr hle_u_72
    have hle_u : x_le u v9 := (h3.le).tr hle_u_71
    refine ⟨rv, v9, hK, hle_u, ?_⟩
    intro p e s m args below meth c A H locs ls F hw hl
    obtain ⟨⟨hx, hb, hml, hown, hts⟩, hr, hlocks, hmn⟩ := id F
    refine lv_iload hx hb d_D_rise_165 (lv_at hl 4 rfl) ?_
    refine lv_aload_n hx hb d_D_rise_167 rfl (lv_at hl 0 rfl) ?_
    refine xr_get hx hb hts (xmu uws_D) hown hw h1 rfl (by decide) (hts _ (xm w_203)) (fun _ h9 => h9) d_D_rise_168 ?_
    refine lv_icmp_gt (tgt := 186) hx hb d_D_rise_171 (by decide) (fun c9 => absurd c9 hc2) (fun _ => ?_)
    refine lv_aload_n hx hb d_D_rise_174 rfl (lv_at hl 0 rfl) ?_
    refine lv_iload hx hb d_D_rise_175 (lv_at hl 4 rfl) ?_
    refine xr_put (ty := .int) hx hb hts (xmu uws_D) tyc_D tyc_D_ok nmc_D hown hw h3 rfl (by decide) (hts _ (xm w_203)) (fun _ h9 => h9) rfl (by decide +kernel) rfl rfl d_D_rise_177 (fun H locs hw => ?_)
    refine lv_aload_n hx hb d_D_rise_180 rfl (lv_at hl 0 rfl) ?_
    refine lv_iload hx hb d_D_rise_181 (lv_at hl 5 rfl) ?_
    refine xr_put (ty := .int) hx hb hts (xmu uws_D) tyc_D tyc_D_ok nmc_D hown hw h4 rfl (by decide) (hts _ (xm w_202)) (fun _ h9 => h9) rfl (by decide +kernel) rfl rfl d_D_rise_183 (fun H locs hw => ?_)
    exact w9 p e s m args below meth c A H locs ls F hw (lv_sub hl [0, 1, 2, 3, 4, 5] rfl)
set_option maxRecDepth 100000 in
set_option maxHeartbeats 4000000 in
theorem t_D_rise_L86 (l : Launch) (Z : XZ) (u0 : PS) {Kv : Option Value → PS → Prop} {E192 : Int32 → Int32 → PS → Prop} (x0 : Nat) (x2 : Int32) (hE192 : ∀ (y4 : Int32) (y5 : Int32) (v : PS), E192 y4 y5 v → XN l Z i_D_rise u0 Kv v 192 [(0, .ref x0), (4, .int y4), (5, .int y5)] []) : ∀ (n : Nat) (x3 : Int32) (x4 : Int32) (x5 : Int32) (x6 : Int32) (u : PS), p_D_rise_L86 x0 x2 E192 n x3 x4 x5 x6 u → XN l Z i_D_rise u0 Kv u 86 [(0, .ref x0), (2, .int x2), (3, .int x3), (4, .int x4), (5, .int x5), (6, .int x6)] [] := by
  intro n
  induction n with
  | zero => intro x3 x4 x5 x6 u k; exact False.elim k
  | succ n ih =>
    intro x3 x4 x5 x6 u k
    rw [p_D_rise_L86] at k
    by_cases hc1 : x4 ≤ 0
    · have k := k.1 hc1
      obtain ⟨rv, v9, hK, hle_u, w9⟩ := hE192 x4 x5 u k
      refine ⟨rv, v9, hK, hle_u, ?_⟩
      intro p e s m args below meth c A H locs ls F hw hl
      obtain ⟨⟨hx, hb, hml, hown, hts⟩, hr, hlocks, hmn⟩ := id F
      refine lv_iload hx hb d_D_rise_86 (lv_at hl 3 rfl) ?_
      refine lv_if_le (tgt := 192) hx hb d_D_rise_88 (by decide) (fun _ => ?_) (fun c9 => absurd hc1 c9)
      exact w9 p e s m args below meth c A H locs ls F hw (lv_sub hl [0, 3, 4] rfl)
    · have k := k.2 hc1
      by_cases hc2 : x6 < 0
      · have k := k.1 hc2
        obtain ⟨rv, v9, hK, hle_u, w9⟩ := hE192 x4 x5 u k
        refine ⟨rv, v9, hK, hle_u, ?_⟩
        intro p e s m args below meth c A H locs ls F hw hl
        obtain ⟨⟨hx, hb, hml, hown, hts⟩, hr, hlocks, hmn⟩ := id F
        refine lv_iload hx hb d_D_rise_86 (lv_at hl 3 rfl) ?_
        refine lv_if_le (tgt := 192) hx hb d_D_rise_88 (by decide) (fun c9 => absurd c9 hc1) (fun _ => ?_)
        refine lv_iload hx hb d_D_rise_91 (lv_at hl 5 rfl) ?_
        refine lv_if_lt (tgt := 192) hx hb d_D_rise_93 (by decide) (fun _ => ?_) (fun c9 => absurd hc2 c9)
        exact w9 p e s m args below meth c A H locs ls F hw (lv_sub hl [0, 3, 4] rfl)
      · have k := k.2 hc2
        obtain ⟨z_58, h3, k⟩ := k
        obtain ⟨h5, k⟩ := k
        obtain ⟨_, u_59, ⟨r_60, rfl, k⟩, hM4⟩ := c_T_asks l Z z_58 u _ k
        obtain ⟨z_61, h6, k⟩ := k
        by_cases hc7 : z_61 < ((x5 - x3) - r_60)
        · have k := k.1 hc7
          obtain ⟨rv, v9, hK, hle_u_59, w9⟩ := hE192 x4 x5 u_59 k
          have hle_u : x_le u v9 := (hM4.1).tr hle_u_59
          refine ⟨rv, v9, hK, hle_u, ?_⟩
          intro p e s m args below meth c A H locs ls F hw hl
          obtain ⟨⟨hx, hb, hml, hown, hts⟩, hr, hlocks, hmn⟩ := id F
          refine lv_iload hx hb d_D_rise_86 (lv_at hl 3 rfl) ?_
          refine lv_if_le (tgt := 192) hx hb d_D_rise_88 (by decide) (fun c9 => absurd c9 hc1) (fun _ => ?_)
          refine lv_iload hx hb d_D_rise_91 (lv_at hl 5 rfl) ?_
          refine lv_if_lt (tgt := 192) hx hb d_D_rise_93 (by decide) (fun c9 => absurd c9 hc2) (fun _ => ?_)
          refine lv_iload hx hb d_D_rise_96 (lv_at hl 4 rfl) ?_
          refine lv_iload_n hx hb d_D_rise_98 rfl (lv_at hl 2 rfl) ?_
          refine lv_isub hx hb d_D_rise_99 ?_
          refine lv_aload_n hx hb d_D_rise_100 rfl (lv_at hl 0 rfl) ?_
          refine xr_get hx hb hts (xmu uws_D) hown hw h3 rfl (by decide) (hts _ (xm w_194)) (fun _ h9 => h9) d_D_rise_101 ?_
          refine xr_cV (As := []) (rest := [.int (x5 - x3)]) ⟨hx, hb, hml, hown, hts⟩ hw hM4 hle_u_59 (fun _ _ => ⟨callB_of 0 hts (xgood w_439) rfl rfl rfl (hts _ (xm w_7)) (hts _ (xm w_436)) ⟨by decide, by decide, by decide +kernel⟩ ⟨Nat.le_of_ble_eq_true rfl, Nat.le_of_ble_eq_true rfl⟩, (hts _ (xm w_437)), (hts _ (xm w_438))⟩) (qc := (R_T, F_T, 10)) rfl rfl h5 rfl hl.1 rfl (Nat.le_of_ble_eq_true rfl) d_D_rise_104 (fun H locs hw => ?_)
          refine W.eq (g2 := F0 m 107 ls [.int r_60, .int (x5 - x3)]) rfl ?_
          refine lv_isub hx hb d_D_rise_107 ?_
          refine lv_aload_n hx hb d_D_rise_108 rfl (lv_at hl 0 rfl) ?_
          refine xr_get hx hb hts (xmu uws_D) hown hw h6 rfl (by decide) (hts _ (xm w_203)) (fun _ h9 => h9) d_D_rise_109 ?_
          refine lv_icmp_gt (tgt := 192) hx hb d_D_rise_112 (by decide) (fun _ => ?_) (fun c9 => absurd hc7 c9)
          exact w9 p e s m args below meth c A H locs ls F hw (lv_sub hl [0, 3, 4] rfl)
        · have k := k.2 hc7
          obtain ⟨z_62, h8, k⟩ := k
          obtain ⟨z_63, h9, k⟩ := k
          by_cases hc10 : ((x2 >>> (z_63 &&& 31)) &&& (1 : Int32)) = 1
          · have k := k.2 hc10
            obtain ⟨z_64, h11, k⟩ := k
            obtain ⟨h13, k⟩ := k
            obtain ⟨_, u_65, ⟨r_66, rfl, k⟩, hM12⟩ := c_T_riseAbove l Z z_64 z_63 u_59 _ k
            obtain ⟨y14, ey14⟩ : ∃ y9 : Int32, y9 = (x5 + r_66) := ⟨_, rfl⟩
            have k := k y14 ey14
            obtain ⟨z_67, h15, k⟩ := k
            obtain ⟨h17, k⟩ := k
            obtain ⟨_, u_68, ⟨r_69, rfl, k⟩, hM16⟩ := c_N_asksFor l Z z_67 z_63 u_65 _ k
            obtain ⟨y18, ey18⟩ : ∃ y9 : Int32, y9 = (x3 - (r_69 - (1 : Int32))) := ⟨_, rfl⟩
            have k := k y18 ey18
            obtain ⟨y19, ey19⟩ : ∃ y9 : Int32, y9 = x4 + (-1) := ⟨_, rfl⟩
            have k := k y19 ey19
            obtain ⟨rv, v9, hK, hle_u_68, w9⟩ := t_D_rise_J165 l Z u0 x0 x2 y18 y19 y14 x6 u_68 ih hE192 k
            have hle_u_65 : x_le u_65 v9 := (hM16.1).tr hle_u_68
            have hle_u_59 : x_le u_59 v9 := (hM12.1).tr hle_u_65
            have hle_u : x_le u v9 := (hM4.1).tr hle_u_59
            refine ⟨rv, v9, hK, hle_u, ?_⟩
            intro p e s m args below meth c A H locs ls F hw hl
            obtain ⟨⟨hx, hb, hml, hown, hts⟩, hr, hlocks, hmn⟩ := id F
            refine lv_iload hx hb d_D_rise_86 (lv_at hl 3 rfl) ?_
            refine lv_if_le (tgt := 192) hx hb d_D_rise_88 (by decide) (fun c9 => absurd c9 hc1) (fun _ => ?_)
            refine lv_iload hx hb d_D_rise_91 (lv_at hl 5 rfl) ?_
            refine lv_if_lt (tgt := 192) hx hb d_D_rise_93 (by decide) (fun c9 => absurd c9 hc2) (fun _ => ?_)
            refine lv_iload hx hb d_D_rise_96 (lv_at hl 4 rfl) ?_
            refine lv_iload_n hx hb d_D_rise_98 rfl (lv_at hl 2 rfl) ?_
            refine lv_isub hx hb d_D_rise_99 ?_
            refine lv_aload_n hx hb d_D_rise_100 rfl (lv_at hl 0 rfl) ?_
            refine xr_get hx hb hts (xmu uws_D) hown hw h3 rfl (by decide) (hts _ (xm w_194)) (fun _ h9 => h9) d_D_rise_101 ?_
            refine xr_cV (As := []) (rest := [.int (x5 - x3)]) ⟨hx, hb, hml, hown, hts⟩ hw hM4 hle_u_59 (fun _ _ => ⟨callB_of 0 hts (xgood w_439) rfl rfl rfl (hts _ (xm w_7)) (hts _ (xm w_436)) ⟨by decide, by decide, by decide +kernel⟩ ⟨Nat.le_of_ble_eq_true rfl, Nat.le_of_ble_eq_true rfl⟩, (hts _ (xm w_437)), (hts _ (xm w_438))⟩) (qc := (R_T, F_T, 10)) rfl rfl h5 rfl hl.1 rfl (Nat.le_of_ble_eq_true rfl) d_D_rise_104 (fun H locs hw => ?_)
            refine W.eq (g2 := F0 m 107 ls [.int r_60, .int (x5 - x3)]) rfl ?_
            refine lv_isub hx hb d_D_rise_107 ?_
            refine lv_aload_n hx hb d_D_rise_108 rfl (lv_at hl 0 rfl) ?_
            refine xr_get hx hb hts (xmu uws_D) hown hw h6 rfl (by decide) (hts _ (xm w_203)) (fun _ h9 => h9) d_D_rise_109 ?_
            refine lv_icmp_gt (tgt := 192) hx hb d_D_rise_112 (by decide) (fun c9 => absurd c9 hc7) (fun _ => ?_)
            refine lv_aload_n hx hb d_D_rise_115 rfl (lv_at hl 0 rfl) ?_
            refine xr_get hx hb hts (xmu uws_D) hown hw h8 rfl (by decide) (hts _ (xm w_195)) (fun _ h9 => h9) d_D_rise_116 ?_
            refine lv_iload hx hb d_D_rise_119 (lv_at hl 5 rfl) ?_
            refine xr_iald hx hb hw h9 d_D_rise_121 ?_
            refine lv_istore (lv' := [(7, .int z_63), (0, .ref x0), (2, .int x2), (3, .int x3), (4, .int x4), (5, .int x5), (6, .int x6)]) hx hb d_D_rise_122 hl (by decide) rfl (fun ls hl => ?_)
            refine lv_iload_n hx hb d_D_rise_124 rfl (lv_at hl 2 rfl) ?_
            refine lv_iload hx hb d_D_rise_125 (lv_at hl 0 rfl) ?_
            refine lv_ishr hx hb d_D_rise_127 ?_
            refine lv_iconst (v := 1) hx hb d_D_rise_128 (by decide) ?_
            refine lv_iand hx hb d_D_rise_129 ?_
            refine lv_iconst (v := 1) hx hb d_D_rise_130 (by decide) ?_
            refine lv_icmp_ne (tgt := 165) hx hb d_D_rise_131 (by decide) (fun c9 => absurd hc10 c9) (fun _ => ?_)
            refine lv_iload hx hb d_D_rise_134 (lv_at hl 5 rfl) ?_
            refine lv_aload_n hx hb d_D_rise_136 rfl (lv_at hl 1 rfl) ?_
            refine xr_get hx hb hts (xmu uws_D) hown hw h11 rfl (by decide) (hts _ (xm w_194)) (fun _ h9 => h9) d_D_rise_137 ?_
            refine lv_iload hx hb d_D_rise_140 (lv_at hl 0 rfl) ?_
            refine xr_cV (As := [.int z_63]) (rest := [.int x5]) ⟨hx, hb, hml, hown, hts⟩ hw hM12 hle_u_65 (fun _ _ => ⟨callB_of 1 hts (xgood w_443) rfl rfl rfl (hts _ (xm w_7)) (hts _ (xm w_440)) ⟨by decide, by decide, by decide +kernel⟩ ⟨Nat.le_of_ble_eq_true rfl, Nat.le_of_ble_eq_true rfl⟩, (hts _ (xm w_441)), (hts _ (xm w_442))⟩) (qc := (R_T, F_T, 10)) rfl rfl h13 rfl hl.1 rfl (Nat.le_of_ble_eq_true rfl) d_D_rise_142 (fun H locs hw => ?_)
            refine W.eq (g2 := F0 m 145 ls [.int r_66, .int x5]) rfl ?_
            refine lv_iadd hx hb d_D_rise_145 ?_
            refine lv_istore (lv' := [(5, .int y14), (7, .int z_63), (0, .ref x0), (2, .int x2), (3, .int x3), (4, .int x4), (6, .int x6)]) hx hb d_D_rise_146 hl (by decide) (by subst ey14; rfl) (fun ls hl => ?_)
            refine lv_iload_n hx hb d_D_rise_148 rfl (lv_at hl 4 rfl) ?_
            refine lv_aload_n hx hb d_D_rise_149 rfl (lv_at hl 2 rfl) ?_
            refine xr_get hx hb hts (xmu uws_D) hown hw h15 rfl (by decide) (hts _ (xm w_192)) (fun _ h9 => h9) d_D_rise_150 ?_
            refine lv_iload hx hb d_D_rise_153 (lv_at hl 1 rfl) ?_
            refine xr_cV (As := [.int z_63]) (rest := [.int x3]) ⟨hx, hb, hml, hown, hts⟩ hw hM16 hle_u_68 (fun _ _ => ⟨callB_of 1 hts (xgood w_395) rfl rfl rfl (hts _ (xm w_4)) (hts _ (xm w_392)) ⟨by decide, by decide, by decide +kernel⟩ ⟨Nat.le_of_ble_eq_true rfl, Nat.le_of_ble_eq_true rfl⟩, (hts _ (xm w_393)), (hts _ (xm w_394))⟩) (qc := (R_N, F_N, 13)) rfl rfl h17 rfl hl.1 rfl (Nat.le_of_ble_eq_true rfl) d_D_rise_155 (fun H locs hw => ?_)
            refine W.eq (g2 := F0 m 158 ls [.int r_69, .int x3]) rfl ?_
            refine lv_iconst (v := 1) hx hb d_D_rise_158 (by decide) ?_
            refine lv_isub hx hb d_D_rise_159 ?_
            refine lv_isub hx hb d_D_rise_160 ?_
            refine lv_istore_n (lv' := [(3, .int y18), (5, .int y14), (7, .int z_63), (0, .ref x0), (2, .int x2), (4, .int x4), (6, .int x6)]) hx hb d_D_rise_161 rfl hl (by decide) (by subst ey18; rfl) (fun ls hl => ?_)
            refine lv_iinc (v := y19) (lv' := [(4, .int y19), (3, .int y18), (5, .int y14), (7, .int z_63), (0, .ref x0), (2, .int x2), (6, .int x6)]) hx hb d_D_rise_162 hl (k := 5) rfl (by subst ey19; rfl) (by decide) rfl (fun ls hl => ?_)
            exact w9 p e s m args below meth c A H locs ls F hw (lv_sub hl [4, 5, 1, 0, 2, 6] rfl)
          · have k := k.1 hc10
            obtain ⟨rv, v9, hK, hle_u_59, w9⟩ := t_D_rise_J165 l Z u0 x0 x2 x3 x4 x5 x6 u_59 ih hE192 k
            have hle_u : x_le u v9 := (hM4.1).tr hle_u_59
            refine ⟨rv, v9, hK, hle_u, ?_⟩
            intro p e s m args below meth c A H locs ls F hw hl
            obtain ⟨⟨hx, hb, hml, hown, hts⟩, hr, hlocks, hmn⟩ := id F
            refine lv_iload hx hb d_D_rise_86 (lv_at hl 3 rfl) ?_
            refine lv_if_le (tgt := 192) hx hb d_D_rise_88 (by decide) (fun c9 => absurd c9 hc1) (fun _ => ?_)
            refine lv_iload hx hb d_D_rise_91 (lv_at hl 5 rfl) ?_
            refine lv_if_lt (tgt := 192) hx hb d_D_rise_93 (by decide) (fun c9 => absurd c9 hc2) (fun _ => ?_)
            refine lv_iload hx hb d_D_rise_96 (lv_at hl 4 rfl) ?_
            refine lv_iload_n hx hb d_D_rise_98 rfl (lv_at hl 2 rfl) ?_
            refine lv_isub hx hb d_D_rise_99 ?_
            refine lv_aload_n hx hb d_D_rise_100 rfl (lv_at hl 0 rfl) ?_
            refine xr_get hx hb hts (xmu uws_D) hown hw h3 rfl (by decide) (hts _ (xm w_194)) (fun _ h9 => h9) d_D_rise_101 ?_
            refine xr_cV (As := []) (rest := [.int (x5 - x3)]) ⟨hx, hb, hml, hown, hts⟩ hw hM4 hle_u_59 (fun _ _ => ⟨callB_of 0 hts (xgood w_439) rfl rfl rfl (hts _ (xm w_7)) (hts _ (xm w_436)) ⟨by decide, by decide, by decide +kernel⟩ ⟨Nat.le_of_ble_eq_true rfl, Nat.le_of_ble_eq_true rfl⟩, (hts _ (xm w_437)), (hts _ (xm w_438))⟩) (qc := (R_T, F_T, 10)) rfl rfl h5 rfl hl.1 rfl (Nat.le_of_ble_eq_true rfl) d_D_rise_104 (fun H locs hw => ?_)
            refine W.eq (g2 := F0 m 107 ls [.int r_60, .int (x5 - x3)]) rfl ?_
            refine lv_isub hx hb d_D_rise_107 ?_
            refine lv_aload_n hx hb d_D_rise_108 rfl (lv_at hl 0 rfl) ?_
            refine xr_get hx hb hts (xmu uws_D) hown hw h6 rfl (by decide) (hts _ (xm w_203)) (fun _ h9 => h9) d_D_rise_109 ?_
            refine lv_icmp_gt (tgt := 192) hx hb d_D_rise_112 (by decide) (fun c9 => absurd c9 hc7) (fun _ => ?_)
            refine lv_aload_n hx hb d_D_rise_115 rfl (lv_at hl 0 rfl) ?_
            refine xr_get hx hb hts (xmu uws_D) hown hw h8 rfl (by decide) (hts _ (xm w_195)) (fun _ h9 => h9) d_D_rise_116 ?_
            refine lv_iload hx hb d_D_rise_119 (lv_at hl 5 rfl) ?_
            refine xr_iald hx hb hw h9 d_D_rise_121 ?_
            refine lv_istore (lv' := [(7, .int z_63), (0, .ref x0), (2, .int x2), (3, .int x3), (4, .int x4), (5, .int x5), (6, .int x6)]) hx hb d_D_rise_122 hl (by decide) rfl (fun ls hl => ?_)
            refine lv_iload_n hx hb d_D_rise_124 rfl (lv_at hl 2 rfl) ?_
            refine lv_iload hx hb d_D_rise_125 (lv_at hl 0 rfl) ?_
            refine lv_ishr hx hb d_D_rise_127 ?_
            refine lv_iconst (v := 1) hx hb d_D_rise_128 (by decide) ?_
            refine lv_iand hx hb d_D_rise_129 ?_
            refine lv_iconst (v := 1) hx hb d_D_rise_130 (by decide) ?_
            refine lv_icmp_ne (tgt := 165) hx hb d_D_rise_131 (by decide) (fun _ => ?_) (fun c9 => absurd c9 hc10)
            exact w9 p e s m args below meth c A H locs ls F hw (lv_sub hl [1, 2, 3, 4, 5, 6] rfl)
set_option maxRecDepth 100000 in
set_option maxHeartbeats 4000000 in
theorem t_D_rise_J192 (l : Launch) (Z : XZ) (u0 : PS) {K : PS → Prop} (x0 : Nat) (x4 : Int32) (x5 : Int32) (u : PS) (k : (p_D_rise_J192 K x0 x4 x5 u)) : XN l Z i_D_rise u0 (kV K) u 192 [(0, .ref x0), (4, .int x4), (5, .int x5)] [] := by
  unfold p_D_rise_J192 at k
  obtain ⟨z_73, h1, k⟩ := k
  obtain ⟨h3, k⟩ := k
  obtain ⟨_, u_74, ⟨rfl, k⟩, hM2⟩ := c_T_end l Z z_73 u _ k
  obtain ⟨rv, v9, hK, hle_u_74, w9⟩ := t_D_rise_J199 l Z u0 x0 x4 x5 u_74 k
  have hle_u : x_le u v9 := (hM2.1).tr hle_u_74
  refine ⟨rv, v9, hK, hle_u, ?_⟩
  intro p e s m args below meth c A H locs ls F hw hl
  obtain ⟨⟨hx, hb, hml, hown, hts⟩, hr, hlocks, hmn⟩ := id F
  refine lv_aload_n hx hb d_D_rise_192 rfl (lv_at hl 0 rfl) ?_
  refine xr_get hx hb hts (xmu uws_D) hown hw h1 rfl (by decide) (hts _ (xm w_194)) (fun _ h9 => h9) d_D_rise_193 ?_
  refine xr_cV (As := []) (rest := []) ⟨hx, hb, hml, hown, hts⟩ hw hM2 hle_u_74 (fun _ _ => ⟨callB_of 0 hts (xgood w_452) rfl rfl rfl (hts _ (xm w_7)) (hts _ (xm w_449)) ⟨by decide, by decide, by decide +kernel⟩ ⟨Nat.le_of_ble_eq_true rfl, Nat.le_of_ble_eq_true rfl⟩, (hts _ (xm w_450)), (hts _ (xm w_451))⟩) (qc := (R_T, F_T, 10)) rfl rfl h3 rfl hl.1 rfl (Nat.le_of_ble_eq_true rfl) d_D_rise_196 (fun H locs hw => ?_)
  refine W.eq (g2 := F0 m 199 ls []) rfl ?_
  exact w9 p e s m args below meth c A H locs ls F hw (lv_sub hl [0, 1, 2] rfl)
set_option maxRecDepth 100000 in
set_option maxHeartbeats 4000000 in
theorem t_D_rise_J59 (l : Launch) (Z : XZ) (u0 : PS) {K : PS → Prop} (x0 : Nat) (x1 : Int32) (x2 : Int32) (x3 : Int32) (x4 : Int32) (u : PS) (k : (p_D_rise_J59 K x0 x1 x2 x3 x4 u)) : XN l Z i_D_rise u0 (kV K) u 59 [(0, .ref x0), (1, .int x1), (2, .int x2), (3, .int x3), (4, .int x4)] [] := by
  unfold p_D_rise_J59 at k
  obtain ⟨z_52, h1, k⟩ := k
  by_cases hc2 : x4 ≤ 0
  · have k := k.1 hc2
    obtain ⟨rv, v9, hK, hle_u, w9⟩ := t_D_rise_J199 l Z u0 x0 x4 z_52 u k
    refine ⟨rv, v9, hK, hle_u, ?_⟩
    intro p e s m args below meth c A H locs ls F hw hl
    obtain ⟨⟨hx, hb, hml, hown, hts⟩, hr, hlocks, hmn⟩ := id F
    refine lv_aload_n hx hb d_D_rise_59 rfl (lv_at hl 0 rfl) ?_
    refine xr_get hx hb hts (xmu uws_D) hown hw h1 rfl (by decide) (hts _ (xm w_203)) (fun _ h9 => h9) d_D_rise_60 ?_
    refine lv_istore (lv' := [(5, .int z_52), (0, .ref x0), (1, .int x1), (2, .int x2), (3, .int x3), (4, .int x4)]) hx hb d_D_rise_63 hl (by decide) rfl (fun ls hl => ?_)
    refine lv_iload hx hb d_D_rise_65 (lv_at hl 5 rfl) ?_
    refine lv_if_le (tgt := 199) hx hb d_D_rise_67 (by decide) (fun _ => ?_) (fun c9 => absurd hc2 c9)
    exact w9 p e s m args below meth c A H locs ls F hw (lv_sub hl [1, 5, 0] rfl)
  · have k := k.2 hc2
    obtain ⟨z_55, h3, k⟩ := k
    obtain ⟨h5, k⟩ := k
    obtain ⟨_, u_56, ⟨rfl, k⟩, hM4⟩ := c_T_startRising l Z z_55 x1 u _ k
    obtain ⟨z_57, h6, k⟩ := k
    obtain ⟨y7, ey7⟩ : ∃ y9 : Int32, y9 = (z_57 - (1 : Int32)) := ⟨_, rfl⟩
    have k := k y7 ey7
    obtain ⟨n8, k⟩ := k
    have hx12 : ∀ (y4_9 : Int32) (y5_10 : Int32) (v11 : PS), (p_D_rise_J192 K x0 y4_9 y5_10 v11) → XN l Z i_D_rise u0 (kV K) v11 192 [(0, .ref x0), (4, .int y4_9), (5, .int y5_10)] [] := by
      intro y4_9 y5_10 v11 k
      obtain ⟨rv, v9, hK, hle_v11, w9⟩ := t_D_rise_J192 l Z u0 x0 y4_9 y5_10 v11 k
      refine ⟨rv, v9, hK, hle_v11, ?_⟩
      intro p e s m args below meth c A H locs ls F hw hl
      obtain ⟨⟨hx, hb, hml, hown, hts⟩, hr, hlocks, hmn⟩ := id F
      exact w9 p e s m args below meth c A H locs ls F hw (lv_sub hl [0, 1, 2] rfl)
    obtain ⟨rv, v9, hK, hle_u_56, w9⟩ := t_D_rise_L86 l Z u0 x0 x2 hx12 n8 x3 x4 z_52 y7 u_56 k
    have hle_u : x_le u v9 := (hM4.1).tr hle_u_56
    refine ⟨rv, v9, hK, hle_u, ?_⟩
    intro p e s m args below meth c A H locs ls F hw hl
    obtain ⟨⟨hx, hb, hml, hown, hts⟩, hr, hlocks, hmn⟩ := id F
    refine lv_aload_n hx hb d_D_rise_59 rfl (lv_at hl 0 rfl) ?_
    refine xr_get hx hb hts (xmu uws_D) hown hw h1 rfl (by decide) (hts _ (xm w_203)) (fun _ h9 => h9) d_D_rise_60 ?_
    refine lv_istore (lv' := [(5, .int z_52), (0, .ref x0), (1, .int x1), (2, .int x2), (3, .int x3), (4, .int x4)]) hx hb d_D_rise_63 hl (by decide) rfl (fun ls hl => ?_)
    refine lv_iload hx hb d_D_rise_65 (lv_at hl 5 rfl) ?_
    refine lv_if_le (tgt := 199) hx hb d_D_rise_67 (by decide) (fun c9 => absurd c9 hc2) (fun _ => ?_)
    refine lv_aload_n hx hb d_D_rise_70 rfl (lv_at hl 1 rfl) ?_
    refine xr_get hx hb hts (xmu uws_D) hown hw h3 rfl (by decide) (hts _ (xm w_194)) (fun _ h9 => h9) d_D_rise_71 ?_
    refine lv_iload_n hx hb d_D_rise_74 rfl (lv_at hl 2 rfl) ?_
    refine xr_cV (As := [.int x1]) (rest := []) ⟨hx, hb, hml, hown, hts⟩ hw hM4 hle_u_56 (fun _ _ => ⟨callB_of 1 hts (xgood w_425) rfl rfl rfl (hts _ (xm w_7)) (hts _ (xm w_422)) ⟨by decide, by decide, by decide +kernel⟩ ⟨Nat.le_of_ble_eq_true rfl, Nat.le_of_ble_eq_true rfl⟩, (hts _ (xm w_423)), (hts _ (xm w_424))⟩) (qc := (R_T, F_T, 10)) rfl rfl h5 rfl hl.1 rfl (Nat.le_of_ble_eq_true rfl) d_D_rise_75 (fun H locs hw => ?_)
    refine W.eq (g2 := F0 m 78 ls []) rfl ?_
    refine lv_aload_n hx hb d_D_rise_78 rfl (lv_at hl 1 rfl) ?_
    refine xr_get hx hb hts (xmu uws_D) hown hw h6 rfl (by decide) (hts _ (xm w_201)) (fun _ h9 => h9) d_D_rise_79 ?_
    refine lv_iconst (v := 1) hx hb d_D_rise_82 (by decide) ?_
    refine lv_isub hx hb d_D_rise_83 ?_
    refine lv_istore (lv' := [(6, .int y7), (5, .int z_52), (0, .ref x0), (1, .int x1), (2, .int x2), (3, .int x3), (4, .int x4)]) hx hb d_D_rise_84 hl (by decide) (by subst ey7; rfl) (fun ls hl => ?_)
    exact w9 p e s m args below meth c A H locs ls F hw (lv_sub hl [2, 4, 5, 6, 1, 0] rfl)
set_option maxRecDepth 100000 in
set_option maxHeartbeats 4000000 in
theorem c_D_rise (l : Launch) (Z : XZ) (x0 : Nat) (x1 : Int32) (x2 : Int32) (u : PS) (K : PS → Prop) (k : p_D_rise x0 x1 x2 u K) : ∃ (rv : Option Value) (u1 : PS), (kV K) rv u1 ∧ XMet l Z i_D_rise [.ref x0, .int x1, .int x2] u rv u1 := by
  refine x_met (by decide) rfl (Nat.le_of_ble_eq_true rfl) ?_
  show XN l Z i_D_rise u (kV K) u 0 [(0, .ref x0), (1, .int x1), (2, .int x2)] []
  unfold p_D_rise at k
  obtain ⟨n1, k⟩ := k
  have hx5 : ∀ (y3_2 : Int32) (y4_3 : Int32) (v4 : PS), (p_D_rise_J59 K x0 x1 x2 y3_2 y4_3 v4) → XN l Z i_D_rise u (kV K) v4 59 [(0, .ref x0), (1, .int x1), (2, .int x2), (3, .int y3_2), (4, .int y4_3)] [] := by
    intro y3_2 y4_3 v4 k
    obtain ⟨rv, v9, hK, hle_v4, w9⟩ := t_D_rise_J59 l Z u x0 x1 x2 y3_2 y4_3 v4 k
    refine ⟨rv, v9, hK, hle_v4, ?_⟩
    intro p e s m args below meth c A H locs ls F hw hl
    obtain ⟨⟨hx, hb, hml, hown, hts⟩, hr, hlocks, hmn⟩ := id F
    exact w9 p e s m args below meth c A H locs ls F hw (lv_sub hl [0, 1, 2, 3, 4] rfl)
  obtain ⟨rv, v9, hK, hle_u, w9⟩ := t_D_rise_L8 l Z u x0 x1 x2 hx5 n1 (-1 : Int32) (0 : Int32) (0 : Int32) u k
  refine ⟨rv, v9, hK, hle_u, ?_⟩
  intro p e s m args below meth c A H locs ls F hw hl
  obtain ⟨⟨hx, hb, hml, hown, hts⟩, hr, hlocks, hmn⟩ := id F
  refine lv_iconst (v := (-1)) hx hb d_D_rise_0 (by decide) ?_
  refine lv_istore_n (lv' := [(3, .int (-1)), (0, .ref x0), (1, .int x1), (2, .int x2)]) hx hb d_D_rise_1 rfl hl (by decide) rfl (fun ls hl => ?_)
  refine lv_iconst (v := 0) hx hb d_D_rise_2 (by decide) ?_
  refine lv_istore (lv' := [(4, .int 0), (3, .int (-1)), (0, .ref x0), (1, .int x1), (2, .int x2)]) hx hb d_D_rise_3 hl (by decide) rfl (fun ls hl => ?_)
  refine lv_iconst (v := 0) hx hb d_D_rise_5 (by decide) ?_
  refine lv_istore (lv' := [(5, .int 0), (4, .int 0), (3, .int (-1)), (0, .ref x0), (1, .int x1), (2, .int x2)]) hx hb d_D_rise_6 hl (by decide) rfl (fun ls hl => ?_)
  exact w9 p e s m args below meth c A H locs ls F hw (lv_sub hl [3, 4, 5, 2, 1, 0] rfl)
