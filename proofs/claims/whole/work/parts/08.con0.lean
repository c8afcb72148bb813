set_option maxRecDepth 100000 in
set_option maxHeartbeats 4000000 in
theorem t_N_found_L17 (l : Launch) (Z : XZ) (u0 : PS) {Kv : Option Value → PS → Prop} {E38 : Int32 → PS → Prop} {E53 : PS → Prop} (x0 : Nat) (x1 : Int32) (hE38 : ∀ (y2 : Int32) (v : PS), E38 y2 v → XN l Z i_N_found u0 Kv v 38 [(2, .int y2)] []) (hE53 : ∀ (v : PS), E53 v → XN l Z i_N_found u0 Kv v 53 [] []) : ∀ (n : Nat) (x2 : Int32) (x3 : Int32) (u : PS), p_N_found_L17 x0 x1 E38 E53 n x2 x3 u → XN l Z i_N_found u0 Kv u 17 [(0, .ref x0), (1, .int x1), (2, .int x2), (3, .int x3)] [] := by
  intro n
  induction n with
  | zero => intro x2 x3 u k; exact False.elim k
  | succ n ih =>
    intro x2 x3 u k
    rw [p_N_found_L17] at k
    by_cases hc1 : x2 = 0
    · have k := k.1 hc1
      obtain ⟨rv, v9, hK, hle_u, w9⟩ := hE53 u k
      refine ⟨rv, v9, hK, hle_u, ?_⟩
      intro p e s m args below meth c A H locs ls F hw hl
      obtain ⟨⟨hx, hb, hml, hown, hts⟩, hr, hlocks, hmn⟩ := id F
      refine lv_iload_n hx hb d_N_found_17 rfl (lv_at hl 2 rfl) ?_
      refine lv_if_eq (tgt := 53) hx hb d_N_found_18 (by decide) (fun _ => ?_) (fun c9 => absurd hc1 c9)
      exact w9 p e s m args below meth c A H locs ls F hw (lv_sub hl [] rfl)
    · have k := k.2 hc1
      by_cases hc2 : 16384 ≤ x3
      · have k := k.1 hc2
        obtain ⟨rv, v9, hK, hle_u, w9⟩ := hE53 u k
        refine ⟨rv, v9, hK, hle_u, ?_⟩
        intro p e s m args below meth c A H locs ls F hw hl
        obtain ⟨⟨hx, hb, hml, hown, hts⟩, hr, hlocks, hmn⟩ := id F
        refine lv_iload_n hx hb d_N_found_17 rfl (lv_at hl 2 rfl) ?_
        refine lv_if_eq (tgt := 53) hx hb d_N_found_18 (by decide) (fun c9 => absurd c9 hc1) (fun _ => ?_)
        refine lv_iload_n hx hb d_N_found_21 rfl (lv_at hl 3 rfl) ?_
        refine lv_sipush (v := 16384) hx hb d_N_found_22 (by decide) ?_
        refine lv_icmp_ge (tgt := 53) hx hb d_N_found_25 (by decide) (fun _ => ?_) (fun c9 => absurd hc2 c9)
        exact w9 p e s m args below meth c A H locs ls F hw (lv_sub hl [] rfl)
      · have k := k.2 hc2
        obtain ⟨z_16, h3, k⟩ := k
        obtain ⟨z_17, h4, k⟩ := k
        by_cases hc5 : z_17 = x1
        · have k := k.2 hc5
          obtain ⟨rv, v9, hK, hle_u, w9⟩ := hE38 x2 u k
          refine ⟨rv, v9, hK, hle_u, ?_⟩
          intro p e s m args below meth c A H locs ls F hw hl
          obtain ⟨⟨hx, hb, hml, hown, hts⟩, hr, hlocks, hmn⟩ := id F
          refine lv_iload_n hx hb d_N_found_17 rfl (lv_at hl 2 rfl) ?_
          refine lv_if_eq (tgt := 53) hx hb d_N_found_18 (by decide) (fun c9 => absurd c9 hc1) (fun _ => ?_)
          refine lv_iload_n hx hb d_N_found_21 rfl (lv_at hl 3 rfl) ?_
          refine lv_sipush (v := 16384) hx hb d_N_found_22 (by decide) ?_
          refine lv_icmp_ge (tgt := 53) hx hb d_N_found_25 (by decide) (fun c9 => absurd c9 hc2) (fun _ => ?_)
          refine lv_aload_n hx hb d_N_found_28 rfl (lv_at hl 0 rfl) ?_
          refine xr_get hx hb hts (xmu uws_N) hown hw h3 rfl (by decide) (hts _ (xm w_72)) (fun _ h9 => h9) d_N_found_29 ?_
          refine lv_iload_n hx hb d_N_found_32 rfl (lv_at hl 2 rfl) ?_
          refine xr_iald hx hb hw h4 d_N_found_33 ?_
          refine lv_iload_n hx hb d_N_found_34 rfl (lv_at hl 1 rfl) ?_
          refine lv_icmp_ne (tgt := 40) hx hb d_N_found_35 (by decide) (fun c9 => absurd hc5 c9) (fun _ => ?_)
          exact w9 p e s m args below meth c A H locs ls F hw (lv_sub hl [2] rfl)
        · have k := k.1 hc5
          obtain ⟨z_18, h6, k⟩ := k
          obtain ⟨z_19, h7, k⟩ := k
          obtain ⟨y8, ey8⟩ : ∃ y9 : Int32, y9 = x3 + 1 := ⟨_, rfl⟩
          have k := k y8 ey8
          obtain ⟨rv, v9, hK, hle_u, w9⟩ := ih z_19 y8 u k
          refine ⟨rv, v9, hK, hle_u, ?_⟩
          intro p e s m args below meth c A H locs ls F hw hl
          obtain ⟨⟨hx, hb, hml, hown, hts⟩, hr, hlocks, hmn⟩ := id F
          refine lv_iload_n hx hb d_N_found_17 rfl (lv_at hl 2 rfl) ?_
          refine lv_if_eq (tgt := 53) hx hb d_N_found_18 (by decide) (fun c9 => absurd c9 hc1) (fun _ => ?_)
          refine lv_iload_n hx hb d_N_found_21 rfl (lv_at hl 3 rfl) ?_
          refine lv_sipush (v := 16384) hx hb d_N_found_22 (by decide) ?_
          refine lv_icmp_ge (tgt := 53) hx hb d_N_found_25 (by decide) (fun c9 => absurd c9 hc2) (fun _ => ?_)
          refine lv_aload_n hx hb d_N_found_28 rfl (lv_at hl 0 rfl) ?_
          refine xr_get hx hb hts (xmu uws_N) hown hw h3 rfl (by decide) (hts _ (xm w_72)) (fun _ h9 => h9) d_N_found_29 ?_
          refine lv_iload_n hx hb d_N_found_32 rfl (lv_at hl 2 rfl) ?_
          refine xr_iald hx hb hw h4 d_N_found_33 ?_
          refine lv_iload_n hx hb d_N_found_34 rfl (lv_at hl 1 rfl) ?_
          refine lv_icmp_ne (tgt := 40) hx hb d_N_found_35 (by decide) (fun _ => ?_) (fun c9 => absurd c9 hc5)
          refine lv_aload_n hx hb d_N_found_40 rfl (lv_at hl 0 rfl) ?_
          refine xr_get hx hb hts (xmu uws_N) hown hw h6 rfl (by decide) (hts _ (xm w_81)) (fun _ h9 => h9) d_N_found_41 ?_
          refine lv_iload_n hx hb d_N_found_44 rfl (lv_at hl 2 rfl) ?_
          refine xr_iald hx hb hw h7 d_N_found_45 ?_
          refine lv_istore_n (lv' := [(2, .int z_19), (0, .ref x0), (1, .int x1), (3, .int x3)]) hx hb d_N_found_46 rfl hl (by decide) rfl (fun ls hl => ?_)
          refine lv_iinc (v := y8) (lv' := [(3, .int y8), (2, .int z_19), (0, .ref x0), (1, .int x1)]) hx hb d_N_found_47 hl (k := 3) rfl (by subst ey8; rfl) (by decide) rfl (fun ls hl => ?_)
          refine lv_goto (tgt := 17) hx hb d_N_found_50 (by decide) ?_
          exact w9 p e s m args below meth c A H locs ls F hw (lv_sub hl [2, 3, 1, 0] rfl)
set_option maxRecDepth 100000 in
set_option maxHeartbeats 4000000 in
theorem c_N_found (l : Launch) (Z : XZ) (x0 : Nat) (x1 : Int32) (u : PS) (K : Int32 → PS → Prop) (k : p_N_found x0 x1 u K) : ∃ (rv : Option Value) (u1 : PS), (kI K) rv u1 ∧ XMet l Z i_N_found [.ref x0, .int x1] u rv u1 := by
  refine x_met (by decide) rfl (Nat.le_of_ble_eq_true rfl) ?_
  show XN l Z i_N_found u (kI K) u 0 [(0, .ref x0), (1, .int x1)] []
  unfold p_N_found at k
  obtain ⟨z_13, h1, k⟩ := k
  obtain ⟨z_14, h2, k⟩ := k
  obtain ⟨z_15, h3, k⟩ := k
  obtain ⟨n4, k⟩ := k
  have hx7 : ∀ (y2_5 : Int32) (v6 : PS), (K y2_5 v6) → XN l Z i_N_found u (kI K) v6 38 [(2, .int y2_5)] [] := by
    intro y2_5 v6 k
    have hle_v6 : x_le v6 v6 := x_le.rf v6
    refine ⟨some (.int y2_5), v6, ⟨y2_5, rfl, k⟩, hle_v6, ?_⟩
    intro p e s m args below meth c A H locs ls F hw hl
    obtain ⟨⟨hx, hb, hml, hown, hts⟩, hr, hlocks, hmn⟩ := id F
    refine lv_iload_n hx hb d_N_found_38 rfl (lv_at hl 0 rfl) ?_
    exact xr_iret F rfl hw d_N_found_39
  have hx9 : ∀ (v8 : PS), (K (0 : Int32) v8) → XN l Z i_N_found u (kI K) v8 53 [] [] := by
    intro v8 k
    have hle_v8 : x_le v8 v8 := x_le.rf v8
    refine ⟨some (.int 0), v8, ⟨(0 : Int32), rfl, k⟩, hle_v8, ?_⟩
    intro p e s m args below meth c A H locs ls F hw hl
    obtain ⟨⟨hx, hb, hml, hown, hts⟩, hr, hlocks, hmn⟩ := id F
    refine lv_iconst (v := 0) hx hb d_N_found_53 (by decide) ?_
    exact xr_iret F rfl hw d_N_found_54
  obtain ⟨rv, v9, hK, hle_u, w9⟩ := t_N_found_L17 l Z u x0 x1 hx7 hx9 n4 z_15 (0 : Int32) u k
  refine ⟨rv, v9, hK, hle_u, ?_⟩
  intro p e s m args below meth c A H locs ls F hw hl
  obtain ⟨⟨hx, hb, hml, hown, hts⟩, hr, hlocks, hmn⟩ := id F
  refine lv_aload_n hx hb d_N_found_0 rfl (lv_at hl 0 rfl) ?_
  refine xr_get hx hb hts (xmu uws_N) hown hw h1 rfl (by decide) (hts _ (xm w_82)) (fun _ h9 => h9) d_N_found_1 ?_
  refine lv_iload_n hx hb d_N_found_4 rfl (lv_at hl 1 rfl) ?_
  refine lv_ldc (v := (-1640531535)) hx hb hown (hts _ (xm w_312)) d_N_found_5 ?_
  refine lv_imul hx hb d_N_found_7 ?_
  refine lv_aload_n hx hb d_N_found_8 rfl (lv_at hl 0 rfl) ?_
  refine xr_get hx hb hts (xmu uws_N) hown hw h2 rfl (by decide) (hts _ (xm w_83)) (fun _ h9 => h9) d_N_found_9 ?_
  refine lv_iushr hx hb d_N_found_12 rfl ?_
  refine xr_iald hx hb hw h3 d_N_found_13 ?_
  refine lv_istore_n (lv' := [(2, .int z_15), (0, .ref x0), (1, .int x1)]) hx hb d_N_found_14 rfl hl (by decide) rfl (fun ls hl => ?_)
  refine lv_iconst (v := 0) hx hb d_N_found_15 (by decide) ?_
  refine lv_istore_n (lv' := [(3, .int 0), (2, .int z_15), (0, .ref x0), (1, .int x1)]) hx hb d_N_found_16 rfl hl (by decide) rfl (fun ls hl => ?_)
  exact w9 p e s m args below meth c A H locs ls F hw (lv_sub hl [2, 3, 1, 0] rfl)
set_option maxRecDepth 100000 in
set_option maxHeartbeats 4000000 in
theorem t_N_enlist_J47 (l : Launch) (Z : XZ) (u0 : PS) {K : PS → Prop} (x0 : Nat) (x1 : Int32) (x2 : Int32) (x3 : Int32) (u : PS) (k : (p_N_enlist_J47 K x0 x1 x2 x3 u)) : XN l Z i_N_enlist u0 (kV K) u 47 [(0, .ref x0), (1, .int x1), (2, .int x2), (3, .int x3)] [] := by
  unfold p_N_enlist_J47 at k
  obtain ⟨z_25, h1, k⟩ := k
  obtain ⟨z_26, h2, k⟩ := k
  obtain ⟨u_27, h3, k⟩ := k
  obtain ⟨z_28, h4, k⟩ := k
  obtain ⟨u_29, h5, k⟩ := k
  obtain ⟨z_30, h6, k⟩ := k
  obtain ⟨u_31, h7, k⟩ := k
  have hle_u_31 : x_le u_31 u_31 := x_le.rf u_31
  have hle_u_29 : x_le u_29 u_31 := (h7.le).tr hle_u_31
  have hle_u_27 : x_le u_27 u_31 := (h5.le).tr hle_u_29
  have hle_u : x_le u u_31 := (h3.le).tr hle_u_27
  refine ⟨none, u_31, ⟨rfl, k⟩, hle_u, ?_⟩
  intro p e s m args below meth c A H locs ls F hw hl
  obtain ⟨⟨hx, hb, hml, hown, hts⟩, hr, hlocks, hmn⟩ := id F
  refine lv_aload_n hx hb d_N_enlist_47 rfl (lv_at hl 0 rfl) ?_
  refine xr_get hx hb hts (xmu uws_N) hown hw h1 rfl (by decide) (hts _ (xm w_76)) (fun _ h9 => h9) d_N_enlist_48 ?_
  refine lv_iload_n hx hb d_N_enlist_51 rfl (lv_at hl 2 rfl) ?_
  refine xr_aald hx hb hw rfl h2 d_N_enlist_52 ?_
  refine lv_iload_n hx hb d_N_enlist_53 rfl (lv_at hl 3 rfl) ?_
  refine lv_iload_n hx hb d_N_enlist_54 rfl (lv_at hl 1 rfl) ?_
  refine xr_iast hx hb hw h3 d_N_enlist_55 (fun H locs hw => ?_)
  refine lv_aload_n hx hb d_N_enlist_56 rfl (lv_at hl 0 rfl) ?_
  refine xr_get hx hb hts (xmu uws_N) hown hw h4 rfl (by decide) (hts _ (xm w_80)) (fun _ h9 => h9) d_N_enlist_57 ?_
  refine lv_iload_n hx hb d_N_enlist_60 rfl (lv_at hl 1 rfl) ?_
  refine lv_iload_n hx hb d_N_enlist_61 rfl (lv_at hl 3 rfl) ?_
  refine xr_iast hx hb hw h5 d_N_enlist_62 (fun H locs hw => ?_)
  refine lv_aload_n hx hb d_N_enlist_63 rfl (lv_at hl 0 rfl) ?_
  refine xr_get hx hb hts (xmu uws_N) hown hw h6 rfl (by decide) (hts _ (xm w_78)) (fun _ h9 => h9) d_N_enlist_64 ?_
  refine lv_iload_n hx hb d_N_enlist_67 rfl (lv_at hl 2 rfl) ?_
  refine lv_iload_n hx hb d_N_enlist_68 rfl (lv_at hl 3 rfl) ?_
  refine lv_iconst (v := 1) hx hb d_N_enlist_69 (by decide) ?_
  refine lv_iadd hx hb d_N_enlist_70 ?_
  refine xr_iast hx hb hw h7 d_N_enlist_71 (fun H locs hw => ?_)
  exact xr_vret F rfl hw d_N_enlist_72
set_option maxRecDepth 100000 in
set_option maxHeartbeats 4000000 in
theorem c_N_enlist (l : Launch) (Z : XZ) (x0 : Nat) (x1 : Int32) (x2 : Int32) (u : PS) (K : PS → Prop) (k : p_N_enlist x0 x1 x2 u K) : ∃ (rv : Option Value) (u1 : PS), (kV K) rv u1 ∧ XMet l Z i_N_enlist [.ref x0, .int x1, .int x2] u rv u1 := by
  refine x_met (by decide) rfl (Nat.le_of_ble_eq_true rfl) ?_
  show XN l Z i_N_enlist u (kV K) u 0 [(0, .ref x0), (1, .int x1), (2, .int x2)] []
  unfold p_N_enlist at k
  obtain ⟨z_20, h1, k⟩ := k
  obtain ⟨z_21, h2, k⟩ := k
  obtain ⟨z_22, h3, k⟩ := k
  obtain ⟨z_23, h4, k⟩ := k
  obtain ⟨z_24, h5, k⟩ := k
  by_cases hc6 : z_21 < z_24
  · have k := k.1 hc6
    obtain ⟨rv, v9, hK, hle_u, w9⟩ := t_N_enlist_J47 l Z u x0 x1 x2 z_21 u k
    refine ⟨rv, v9, hK, hle_u, ?_⟩
    intro p e s m args below meth c A H locs ls F hw hl
    obtain ⟨⟨hx, hb, hml, hown, hts⟩, hr, hlocks, hmn⟩ := id F
    refine lv_aload_n hx hb d_N_enlist_0 rfl (lv_at hl 0 rfl) ?_
    refine xr_get hx hb hts (xmu uws_N) hown hw h1 rfl (by decide) (hts _ (xm w_78)) (fun _ h9 => h9) d_N_enlist_1 ?_
    refine lv_iload_n hx hb d_N_enlist_4 rfl (lv_at hl 2 rfl) ?_
    refine xr_iald hx hb hw h2 d_N_enlist_5 ?_
    refine lv_istore_n (lv' := [(3, .int z_21), (0, .ref x0), (1, .int x1), (2, .int x2)]) hx hb d_N_enlist_6 rfl hl (by decide) rfl (fun ls hl => ?_)
    refine lv_iload_n hx hb d_N_enlist_7 rfl (lv_at hl 0 rfl) ?_
    refine lv_aload_n hx hb d_N_enlist_8 rfl (lv_at hl 1 rfl) ?_
    refine xr_get hx hb hts (xmu uws_N) hown hw h3 rfl (by decide) (hts _ (xm w_76)) (fun _ h9 => h9) d_N_enlist_9 ?_
    refine lv_iload_n hx hb d_N_enlist_12 rfl (lv_at hl 3 rfl) ?_
    refine xr_aald hx hb hw rfl h4 d_N_enlist_13 ?_
    refine xr_alen hx hb hw rfl h5 d_N_enlist_14 ?_
    refine lv_icmp_lt (tgt := 47) hx hb d_N_enlist_15 (by decide) (fun _ => ?_) (fun c9 => absurd hc6 c9)
    exact w9 p e s m args below meth c A H locs ls F hw (lv_sub hl [1, 2, 3, 0] rfl)
  · have k := k.2 hc6
    obtain ⟨a_32, u_33, h7, k⟩ := k
    obtain ⟨z_34, h8, k⟩ := k
    obtain ⟨z_35, h9, k⟩ := k
    obtain ⟨u_36, h10, k⟩ := k
    obtain ⟨z_37, h11, k⟩ := k
    obtain ⟨u_38, h12, k⟩ := k
    obtain ⟨rv, v9, hK, hle_u_38, w9⟩ := t_N_enlist_J47 l Z u x0 x1 x2 z_21 u_38 k
    have hle_u_36 : x_le u_36 v9 := (h12.le).tr hle_u_38
    have hle_u_33 : x_le u_33 v9 := (h10.le).tr hle_u_36
    have hle_u : x_le u v9 := (h7.le).tr hle_u_33
    refine ⟨rv, v9, hK, hle_u, ?_⟩
    intro p e s m args below meth c A H locs ls F hw hl
    obtain ⟨⟨hx, hb, hml, hown, hts⟩, hr, hlocks, hmn⟩ := id F
    refine lv_aload_n hx hb d_N_enlist_0 rfl (lv_at hl 0 rfl) ?_
    refine xr_get hx hb hts (xmu uws_N) hown hw h1 rfl (by decide) (hts _ (xm w_78)) (fun _ h9 => h9) d_N_enlist_1 ?_
    refine lv_iload_n hx hb d_N_enlist_4 rfl (lv_at hl 2 rfl) ?_
    refine xr_iald hx hb hw h2 d_N_enlist_5 ?_
    refine lv_istore_n (lv' := [(3, .int z_21), (0, .ref x0), (1, .int x1), (2, .int x2)]) hx hb d_N_enlist_6 rfl hl (by decide) rfl (fun ls hl => ?_)
    refine lv_iload_n hx hb d_N_enlist_7 rfl (lv_at hl 0 rfl) ?_
    refine lv_aload_n hx hb d_N_enlist_8 rfl (lv_at hl 1 rfl) ?_
    refine xr_get hx hb hts (xmu uws_N) hown hw h3 rfl (by decide) (hts _ (xm w_76)) (fun _ h9 => h9) d_N_enlist_9 ?_
    refine lv_iload_n hx hb d_N_enlist_12 rfl (lv_at hl 3 rfl) ?_
    refine xr_aald hx hb hw rfl h4 d_N_enlist_13 ?_
    refine xr_alen hx hb hw rfl h5 d_N_enlist_14 ?_
    refine lv_icmp_lt (tgt := 47) hx hb d_N_enlist_15 (by decide) (fun c9 => absurd c9 hc6) (fun _ => ?_)
    refine lv_iconst (v := 2) hx hb d_N_enlist_18 (by decide) ?_
    refine lv_iload_n hx hb d_N_enlist_19 rfl (lv_at hl 0 rfl) ?_
    refine lv_imul hx hb d_N_enlist_20 ?_
    refine xr_newai hx hb rfl (hts _ (xm w_51)) hw h7 hle_u_33 d_N_enlist_21 (fun H hw => ?_)
    refine lv_astore (lv' := [(4, .ref a_32), (3, .int z_21), (0, .ref x0), (1, .int x1), (2, .int x2)]) hx hb d_N_enlist_23 hl (by decide) rfl (fun ls hl => ?_)
    refine lv_aload_n hx hb d_N_enlist_25 rfl (lv_at hl 2 rfl) ?_
    refine xr_get hx hb hts (xmu uws_N) hown hw h8 rfl (by decide) (hts _ (xm w_76)) (fun _ h9 => h9) d_N_enlist_26 ?_
    refine lv_iload_n hx hb d_N_enlist_29 rfl (lv_at hl 4 rfl) ?_
    refine xr_aald hx hb hw rfl h9 d_N_enlist_30 ?_
    refine lv_iconst (v := 0) hx hb d_N_enlist_31 (by decide) ?_
    refine lv_aload hx hb d_N_enlist_32 (lv_at hl 0 rfl) ?_
    refine lv_iconst (v := 0) hx hb d_N_enlist_34 (by decide) ?_
    refine lv_iload_n hx hb d_N_enlist_35 rfl (lv_at hl 1 rfl) ?_
    refine xr_copy (rest := []) hx hb (hml.trans hl.1.symm) hown (hts _ (xm w_305)) (hts _ (xm w_307)) (hts _ (xm w_306)) (hts _ (xm w_15)) hw h10 (Nat.le_of_ble_eq_true rfl) (Nat.le_of_ble_eq_true rfl) d_N_enlist_36 (fun H locs hw => ?_)
    refine lv_aload_n hx hb d_N_enlist_39 rfl (lv_at hl 2 rfl) ?_
    refine xr_get hx hb hts (xmu uws_N) hown hw h11 rfl (by decide) (hts _ (xm w_76)) (fun _ h9 => h9) d_N_enlist_40 ?_
    refine lv_iload_n hx hb d_N_enlist_43 rfl (lv_at hl 4 rfl) ?_
    refine lv_aload hx hb d_N_enlist_44 (lv_at hl 0 rfl) ?_
    refine xr_aast hx hb hw rfl (hw.1.2 0 _ rfl).2 (hw.2.2.2.2.2.1.over wo_I _) h12 d_N_enlist_46 (fun H locs hw => ?_)
    exact w9 p e s m args below meth c A H locs ls F hw (lv_sub hl [2, 3, 4, 1] rfl)
set_option maxRecDepth 100000 in
set_option maxHeartbeats 4000000 in
theorem c_N_link (l : Launch) (Z : XZ) (x0 : Nat) (x1 : Int32) (u : PS) (K : PS → Prop) (k : p_N_link x0 x1 u K) : ∃ (rv : Option Value) (u1 : PS), (kV K) rv u1 ∧ XMet l Z i_N_link [.ref x0, .int x1] u rv u1 := by
  refine x_met (by decide) rfl (Nat.le_of_ble_eq_true rfl) ?_
  show XN l Z i_N_link u (kV K) u 0 [(0, .ref x0), (1, .int x1)] []
  unfold p_N_link at k
  obtain ⟨z_11, h1, k⟩ := k
  obtain ⟨z_12, h2, k⟩ := k
  obtain ⟨z_13, h3, k⟩ := k
  obtain ⟨y4, ey4⟩ : ∃ y9 : Int32, y9 = (((z_12 * (-1640531535 : Int32)).toUInt32 >>> (z_13.toUInt32 &&& Int32.toUInt32 31)).toInt32) := ⟨_, rfl⟩
  have k := k y4 ey4
  obtain ⟨z_14, h5, k⟩ := k
  obtain ⟨z_15, h6, k⟩ := k
  obtain ⟨z_16, h7, k⟩ := k
  obtain ⟨u_17, h8, k⟩ := k
  obtain ⟨z_18, h9, k⟩ := k
  obtain ⟨u_19, h10, k⟩ := k
  have hle_u_19 : x_le u_19 u_19 := x_le.rf u_19
  have hle_u_17 : x_le u_17 u_19 := (h10.le).tr hle_u_19
  have hle_u : x_le u u_19 := (h8.le).tr hle_u_17
  refine ⟨none, u_19, ⟨rfl, k⟩, hle_u, ?_⟩
  intro p e s m args below meth c A H locs ls F hw hl
  obtain ⟨⟨hx, hb, hml, hown, hts⟩, hr, hlocks, hmn⟩ := id F
  refine lv_aload_n hx hb d_N_link_0 rfl (lv_at hl 0 rfl) ?_
  refine xr_get hx hb hts (xmu uws_N) hown hw h1 rfl (by decide) (hts _ (xm w_72)) (fun _ h9 => h9) d_N_link_1 ?_
  refine lv_iload_n hx hb d_N_link_4 rfl (lv_at hl 1 rfl) ?_
  refine xr_iald hx hb hw h2 d_N_link_5 ?_
  refine lv_ldc (v := (-1640531535)) hx hb hown (hts _ (xm w_312)) d_N_link_6 ?_
  refine lv_imul hx hb d_N_link_8 ?_
  refine lv_aload_n hx hb d_N_link_9 rfl (lv_at hl 0 rfl) ?_
  refine xr_get hx hb hts (xmu uws_N) hown hw h3 rfl (by decide) (hts _ (xm w_83)) (fun _ h9 => h9) d_N_link_10 ?_
  refine lv_iushr hx hb d_N_link_13 rfl ?_
  refine lv_istore_n (lv' := [(2, .int y4), (0, .ref x0), (1, .int x1)]) hx hb d_N_link_14 rfl hl (by decide) (by subst ey4; rfl) (fun ls hl => ?_)
  refine lv_aload_n hx hb d_N_link_15 rfl (lv_at hl 1 rfl) ?_
  refine xr_get hx hb hts (xmu uws_N) hown hw h5 rfl (by decide) (hts _ (xm w_81)) (fun _ h9 => h9) d_N_link_16 ?_
  refine lv_iload_n hx hb d_N_link_19 rfl (lv_at hl 2 rfl) ?_
  refine lv_aload_n hx hb d_N_link_20 rfl (lv_at hl 1 rfl) ?_
  refine xr_get hx hb hts (xmu uws_N) hown hw h6 rfl (by decide) (hts _ (xm w_82)) (fun _ h9 => h9) d_N_link_21 ?_
  refine lv_iload_n hx hb d_N_link_24 rfl (lv_at hl 0 rfl) ?_
  refine xr_iald hx hb hw h7 d_N_link_25 ?_
  refine xr_iast hx hb hw h8 d_N_link_26 (fun H locs hw => ?_)
  refine lv_aload_n hx hb d_N_link_27 rfl (lv_at hl 1 rfl) ?_
  refine xr_get hx hb hts (xmu uws_N) hown hw h9 rfl (by decide) (hts _ (xm w_82)) (fun _ h9 => h9) d_N_link_28 ?_
  refine lv_iload_n hx hb d_N_link_31 rfl (lv_at hl 0 rfl) ?_
  refine lv_iload_n hx hb d_N_link_32 rfl (lv_at hl 2 rfl) ?_
  refine xr_iast hx hb hw h10 d_N_link_33 (fun H locs hw => ?_)
  exact xr_vret F rfl hw d_N_link_34
set_option maxRecDepth 100000 in
set_option maxHeartbeats 4000000 in
theorem t_T_link_J52 (l : Launch) (Z : XZ) (u0 : PS) {K : PS → Prop} (x0 : Nat) (x1 : Int32) (s0 : Int32) (u : PS) (k : (p_T_link_J52 K x0 x1 s0 u)) : XN l Z i_T_link u0 (kV K) u 52 [(0, .ref x0), (1, .int x1)] [.int s0] := by
  unfold p_T_link_J52 at k
  obtain ⟨z_27, h1, k⟩ := k
  obtain ⟨z_28, h2, k⟩ := k
  obtain ⟨z_29, h3, k⟩ := k
  obtain ⟨u_30, h4, k⟩ := k
  obtain ⟨z_31, h5, k⟩ := k
  obtain ⟨u_32, h6, k⟩ := k
  have hle_u_32 : x_le u_32 u_32 := x_le.rf u_32
  have hle_u_30 : x_le u_30 u_32 := (h6.le).tr hle_u_32
  have hle_u : x_le u u_32 := (h4.le).tr hle_u_30
  refine ⟨none, u_32, ⟨rfl, k⟩, hle_u, ?_⟩
  intro p e s m args below meth c A H locs ls F hw hl
  obtain ⟨⟨hx, hb, hml, hown, hts⟩, hr, hlocks, hmn⟩ := id F
  refine lv_istore (lv' := [(6, .int s0), (0, .ref x0), (1, .int x1)]) hx hb d_T_link_52 hl (by decide) rfl (fun ls hl => ?_)
  refine lv_aload_n hx hb d_T_link_54 rfl (lv_at hl 1 rfl) ?_
  refine xr_get hx hb hts (xmu uws_T) hown hw h1 rfl (by decide) (hts _ (xm w_167)) (fun _ h9 => h9) d_T_link_55 ?_
  refine lv_iload_n hx hb d_T_link_58 rfl (lv_at hl 2 rfl) ?_
  refine lv_aload_n hx hb d_T_link_59 rfl (lv_at hl 1 rfl) ?_
  refine xr_get hx hb hts (xmu uws_T) hown hw h2 rfl (by decide) (hts _ (xm w_168)) (fun _ h9 => h9) d_T_link_60 ?_
  refine lv_iload hx hb d_T_link_63 (lv_at hl 0 rfl) ?_
  refine xr_iald hx hb hw h3 d_T_link_65 ?_
  refine xr_iast hx hb hw h4 d_T_link_66 (fun H locs hw => ?_)
  refine lv_aload_n hx hb d_T_link_67 rfl (lv_at hl 1 rfl) ?_
  refine xr_get hx hb hts (xmu uws_T) hown hw h5 rfl (by decide) (hts _ (xm w_168)) (fun _ h9 => h9) d_T_link_68 ?_
  refine lv_iload hx hb d_T_link_71 (lv_at hl 0 rfl) ?_
  refine lv_iload_n hx hb d_T_link_73 rfl (lv_at hl 2 rfl) ?_
  refine xr_iast hx hb hw h6 d_T_link_74 (fun H locs hw => ?_)
  exact xr_vret F rfl hw d_T_link_75
set_option maxRecDepth 100000 in
set_option maxHeartbeats 4000000 in
theorem c_T_link (l : Launch) (Z : XZ) (x0 : Nat) (x1 : Int32) (x2 : Int32) (x3 : Int32) (u : PS) (K : PS → Prop) (k : p_T_link x0 x1 x2 x3 u K) : ∃ (rv : Option Value) (u1 : PS), (kV K) rv u1 ∧ XMet l Z i_T_link [.ref x0, .int x1, .int x2, .int x3] u rv u1 := by
  refine x_met (by decide) rfl (Nat.le_of_ble_eq_true rfl) ?_
  show XN l Z i_T_link u (kV K) u 0 [(0, .ref x0), (1, .int x1), (2, .int x2), (3, .int x3)] []
  unfold p_T_link at k
  obtain ⟨z_17, h1, k⟩ := k
  obtain ⟨z_18, h2, k⟩ := k
  obtain ⟨z_19, h3, k⟩ := k
  obtain ⟨z_20, h4, k⟩ := k
  obtain ⟨z_21, h5, k⟩ := k
  obtain ⟨z_22, h6, k⟩ := k
  obtain ⟨z_23, h7, k⟩ := k
  obtain ⟨z_24, h8, k⟩ := k
  obtain ⟨z_25, h9, k⟩ := k
  obtain ⟨z_26, h10, k⟩ := k
  by_cases hc11 : z_26 ≤ z_21
  · have k := k.1 hc11
    obtain ⟨rv, v9, hK, hle_u, w9⟩ := t_T_link_J52 l Z u x0 x1 z_26 u k
    refine ⟨rv, v9, hK, hle_u, ?_⟩
    intro p e s m args below meth c A H locs ls F hw hl
    obtain ⟨⟨hx, hb, hml, hown, hts⟩, hr, hlocks, hmn⟩ := id F
    refine lv_aload_n hx hb d_T_link_0 rfl (lv_at hl 0 rfl) ?_
    refine xr_get hx hb hts (xmu uws_T) hown hw h1 rfl (by decide) (hts _ (xm w_169)) (fun _ h9 => h9) d_T_link_1 ?_
    refine lv_aload_n hx hb d_T_link_4 rfl (lv_at hl 0 rfl) ?_
    refine xr_get hx hb hts (xmu uws_T) hown hw h2 rfl (by decide) (hts _ (xm w_160)) (fun _ h9 => h9) d_T_link_5 ?_
    refine xr_get hx hb hts (xmu uws_N) hown hw h3 rfl (by decide) (hts _ (xm w_73)) (fun _ h9 => h9) d_T_link_8 ?_
    refine lv_iload_n hx hb d_T_link_11 rfl (lv_at hl 2 rfl) ?_
    refine xr_iald hx hb hw h4 d_T_link_12 ?_
    refine lv_bipush (v := 28) hx hb d_T_link_13 (by decide) ?_
    refine lv_iushr hx hb d_T_link_15 rfl ?_
    refine xr_iald hx hb hw h5 d_T_link_16 ?_
    refine lv_istore (lv' := [(4, .int z_21), (0, .ref x0), (1, .int x1), (2, .int x2), (3, .int x3)]) hx hb d_T_link_17 hl (by decide) rfl (fun ls hl => ?_)
    refine lv_aload_n hx hb d_T_link_19 rfl (lv_at hl 1 rfl) ?_
    refine xr_get hx hb hts (xmu uws_T) hown hw h6 rfl (by decide) (hts _ (xm w_169)) (fun _ h9 => h9) d_T_link_20 ?_
    refine lv_aload_n hx hb d_T_link_23 rfl (lv_at hl 1 rfl) ?_
    refine xr_get hx hb hts (xmu uws_T) hown hw h7 rfl (by decide) (hts _ (xm w_160)) (fun _ h9 => h9) d_T_link_24 ?_
    refine xr_get hx hb hts (xmu uws_N) hown hw h8 rfl (by decide) (hts _ (xm w_73)) (fun _ h9 => h9) d_T_link_27 ?_
    refine lv_iload_n hx hb d_T_link_30 rfl (lv_at hl 4 rfl) ?_
    refine xr_iald hx hb hw h9 d_T_link_31 ?_
    refine lv_bipush (v := 28) hx hb d_T_link_32 (by decide) ?_
    refine lv_iushr hx hb d_T_link_34 rfl ?_
    refine xr_iald hx hb hw h10 d_T_link_35 ?_
    refine lv_istore (lv' := [(5, .int z_26), (4, .int z_21), (0, .ref x0), (1, .int x1), (2, .int x2), (3, .int x3)]) hx hb d_T_link_36 hl (by decide) rfl (fun ls hl => ?_)
    refine lv_iload hx hb d_T_link_38 (lv_at hl 1 rfl) ?_
    refine lv_iload hx hb d_T_link_40 (lv_at hl 0 rfl) ?_
    refine lv_icmp_ge (tgt := 50) hx hb d_T_link_42 (by decide) (fun _ => ?_) (fun c9 => absurd hc11 c9)
    refine lv_iload hx hb d_T_link_50 (lv_at hl 0 rfl) ?_
    exact w9 p e s m args below meth c A H locs ls F hw (lv_sub hl [2, 3] rfl)
  · have k := k.2 hc11
    obtain ⟨rv, v9, hK, hle_u, w9⟩ := t_T_link_J52 l Z u x0 x1 z_21 u k
    refine ⟨rv, v9, hK, hle_u, ?_⟩
    intro p e s m args below meth c A H locs ls F hw hl
    obtain ⟨⟨hx, hb, hml, hown, hts⟩, hr, hlocks, hmn⟩ := id F
    refine lv_aload_n hx hb d_T_link_0 rfl (lv_at hl 0 rfl) ?_
    refine xr_get hx hb hts (xmu uws_T) hown hw h1 rfl (by decide) (hts _ (xm w_169)) (fun _ h9 => h9) d_T_link_1 ?_
    refine lv_aload_n hx hb d_T_link_4 rfl (lv_at hl 0 rfl) ?_
    refine xr_get hx hb hts (xmu uws_T) hown hw h2 rfl (by decide) (hts _ (xm w_160)) (fun _ h9 => h9) d_T_link_5 ?_
    refine xr_get hx hb hts (xmu uws_N) hown hw h3 rfl (by decide) (hts _ (xm w_73)) (fun _ h9 => h9) d_T_link_8 ?_
    refine lv_iload_n hx hb d_T_link_11 rfl (lv_at hl 2 rfl) ?_
    refine xr_iald hx hb hw h4 d_T_link_12 ?_
    refine lv_bipush (v := 28) hx hb d_T_link_13 (by decide) ?_
    refine lv_iushr hx hb d_T_link_15 rfl ?_
    refine xr_iald hx hb hw h5 d_T_link_16 ?_
    refine lv_istore (lv' := [(4, .int z_21), (0, .ref x0), (1, .int x1), (2, .int x2), (3, .int x3)]) hx hb d_T_link_17 hl (by decide) rfl (fun ls hl => ?_)
    refine lv_aload_n hx hb d_T_link_19 rfl (lv_at hl 1 rfl) ?_
    refine xr_get hx hb hts (xmu uws_T) hown hw h6 rfl (by decide) (hts _ (xm w_169)) (fun _ h9 => h9) d_T_link_20 ?_
    refine lv_aload_n hx hb d_T_link_23 rfl (lv_at hl 1 rfl) ?_
    refine xr_get hx hb hts (xmu uws_T) hown hw h7 rfl (by decide) (hts _ (xm w_160)) (fun _ h9 => h9) d_T_link_24 ?_
    refine xr_get hx hb hts (xmu uws_N) hown hw h8 rfl (by decide) (hts _ (xm w_73)) (fun _ h9 => h9) d_T_link_27 ?_
    refine lv_iload_n hx hb d_T_link_30 rfl (lv_at hl 4 rfl) ?_
    refine xr_iald hx hb hw h9 d_T_link_31 ?_
    refine lv_bipush (v := 28) hx hb d_T_link_32 (by decide) ?_
    refine lv_iushr hx hb d_T_link_34 rfl ?_
    refine xr_iald hx hb hw h10 d_T_link_35 ?_
    refine lv_istore (lv' := [(5, .int z_26), (4, .int z_21), (0, .ref x0), (1, .int x1), (2, .int x2), (3, .int x3)]) hx hb d_T_link_36 hl (by decide) rfl (fun ls hl => ?_)
    refine lv_iload hx hb d_T_link_38 (lv_at hl 1 rfl) ?_
    refine lv_iload hx hb d_T_link_40 (lv_at hl 0 rfl) ?_
    refine lv_icmp_ge (tgt := 50) hx hb d_T_link_42 (by decide) (fun c9 => absurd c9 hc11) (fun _ => ?_)
    refine lv_iload hx hb d_T_link_45 (lv_at hl 1 rfl) ?_
    refine lv_goto (tgt := 52) hx hb d_T_link_47 (by decide) ?_
    exact w9 p e s m args below meth c A H locs ls F hw (lv_sub hl [2, 3] rfl)
