set_option maxRecDepth 100000 in
set_option maxHeartbeats 4000000 in
theorem t_G_arrange_L2 (l : Launch) (Z : XZ) (u0 : PS) {Kv : Option Value → PS → Prop} {E28 : PS → Prop} (x0 : Nat) (x1 : Int32) (hE28 : ∀ (v : PS), E28 v → XN l Z i_G_arrange u0 Kv v 28 [(0, .ref x0), (1, .int x1)] []) : ∀ (n : Nat) (x2 : Int32) (u : PS), p_G_arrange_L2 x0 x1 E28 n x2 u → XN l Z i_G_arrange u0 Kv u 2 [(0, .ref x0), (1, .int x1), (2, .int x2)] [] := by
  intro n
  induction n with
  | zero => intro x2 u k; exact False.elim k
  | succ n ih =>
    intro x2 u k
    rw [p_G_arrange_L2] at k
    by_cases hc1 : 10 ≤ x2
    · have k := k.1 hc1
      obtain ⟨rv, v9, hK, hle_u, w9⟩ := hE28 u k
      refine ⟨rv, v9, hK, hle_u, ?_⟩
      intro p e s m args below meth c A H locs ls F hw hl
      obtain ⟨⟨hx, hb, hml, hown, hts⟩, hr, hlocks, hmn⟩ := id F
      refine lv_iload_n hx hb d_G_arrange_2 rfl (lv_at hl 2 rfl) ?_
      refine lv_bipush (v := 10) hx hb d_G_arrange_3 (by decide) ?_
      refine lv_icmp_ge (tgt := 28) hx hb d_G_arrange_5 (by decide) (fun _ => ?_) (fun c9 => absurd hc1 c9)
      exact w9 p e s m args below meth c A H locs ls F hw (lv_sub hl [0, 1] rfl)
    · have k := k.2 hc1
      obtain ⟨z_24, h2, k⟩ := k
      obtain ⟨u_25, h3, k⟩ := k
      obtain ⟨z_26, h4, k⟩ := k
      obtain ⟨u_27, h5, k⟩ := k
      obtain ⟨y6, ey6⟩ : ∃ y9 : Int32, y9 = x2 + 1 := ⟨_, rfl⟩
      have k := k y6 ey6
      obtain ⟨rv, v9, hK, hle_u_27, w9⟩ := ih y6 u_27 k
      have hle_u_25 : x_le u_25 v9 := (h5.le).tr hle_u_27
      have hle_u : x_le u v9 := (h3.le).tr hle_u_25
      refine ⟨rv, v9, hK, hle_u, ?_⟩
      intro p e s m args below meth c A H locs ls F hw hl
      obtain ⟨⟨hx, hb, hml, hown, hts⟩, hr, hlocks, hmn⟩ := id F
      refine lv_iload_n hx hb d_G_arrange_2 rfl (lv_at hl 2 rfl) ?_
      refine lv_bipush (v := 10) hx hb d_G_arrange_3 (by decide) ?_
      refine lv_icmp_ge (tgt := 28) hx hb d_G_arrange_5 (by decide) (fun c9 => absurd c9 hc1) (fun _ => ?_)
      refine lv_aload_n hx hb d_G_arrange_8 rfl (lv_at hl 0 rfl) ?_
      refine xr_get hx hb hts (xmu uws_G) hown hw h2 rfl (by decide) (hts _ (xm w_131)) (fun _ h9 => h9) d_G_arrange_9 ?_
      refine lv_iload_n hx hb d_G_arrange_12 rfl (lv_at hl 2 rfl) ?_
      refine lv_iload_n hx hb d_G_arrange_13 rfl (lv_at hl 2 rfl) ?_
      refine xr_iast hx hb hw h3 d_G_arrange_14 (fun H locs hw => ?_)
      refine lv_aload_n hx hb d_G_arrange_15 rfl (lv_at hl 0 rfl) ?_
      refine xr_get hx hb hts (xmu uws_G) hown hw h4 rfl (by decide) (hts _ (xm w_132)) (fun _ h9 => h9) d_G_arrange_16 ?_
      refine lv_iload_n hx hb d_G_arrange_19 rfl (lv_at hl 2 rfl) ?_
      refine lv_iload_n hx hb d_G_arrange_20 rfl (lv_at hl 2 rfl) ?_
      refine xr_iast hx hb hw h5 d_G_arrange_21 (fun H locs hw => ?_)
      refine lv_iinc (v := y6) (lv' := [(2, .int y6), (0, .ref x0), (1, .int x1)]) hx hb d_G_arrange_22 hl (k := 2) rfl (by subst ey6; rfl) (by decide) rfl (fun ls hl => ?_)
      refine lv_goto (tgt := 2) hx hb d_G_arrange_25 (by decide) ?_
      exact w9 p e s m args below meth c A H locs ls F hw (lv_sub hl [1, 2, 0] rfl)
set_option maxRecDepth 100000 in
set_option maxHeartbeats 4000000 in
theorem t_G_arrange_J82 (l : Launch) (Z : XZ) (u0 : PS) {Kv : Option Value → PS → Prop} {R : Int32 → PS → Prop} {E88 : PS → Prop} (x0 : Nat) (x1 : Int32) (x2 : Int32) (u : PS) (hR : ∀ (y2 : Int32) (v : PS), R y2 v → XN l Z i_G_arrange u0 Kv v 30 [(0, .ref x0), (1, .int x1), (2, .int y2)] []) (hE88 : ∀ (v : PS), E88 v → XN l Z i_G_arrange u0 Kv v 88 [] []) (k : (p_G_arrange_J82 R E88 x0 x1 x2 u)) : XN l Z i_G_arrange u0 Kv u 82 [(0, .ref x0), (1, .int x1), (2, .int x2)] [] := by
  unfold p_G_arrange_J82 at k
  obtain ⟨y1, ey1⟩ : ∃ y9 : Int32, y9 = x2 + 1 := ⟨_, rfl⟩
  have k := k y1 ey1
  obtain ⟨rv, v9, hK, hle_u, w9⟩ := hR y1 u k
  refine ⟨rv, v9, hK, hle_u, ?_⟩
  intro p e s m args below meth c A H locs ls F hw hl
  obtain ⟨⟨hx, hb, hml, hown, hts⟩, hr, hlocks, hmn⟩ := id F
  refine lv_iinc (v := y1) (lv' := [(2, .int y1), (0, .ref x0), (1, .int x1)]) hx hb d_G_arrange_82 hl (k := 2) rfl (by subst ey1; rfl) (by decide) rfl (fun ls hl => ?_)
  refine lv_goto (tgt := 30) hx hb d_G_arrange_85 (by decide) ?_
  exact w9 p e s m args below meth c A H locs ls F hw (lv_sub hl [1, 2, 0] rfl)
set_option maxRecDepth 100000 in
set_option maxHeartbeats 4000000 in
theorem t_G_arrange_L30 (l : Launch) (Z : XZ) (u0 : PS) {Kv : Option Value → PS → Prop} {E88 : PS → Prop} (x0 : Nat) (x1 : Int32) (hE88 : ∀ (v : PS), E88 v → XN l Z i_G_arrange u0 Kv v 88 [] []) : ∀ (n : Nat) (x2 : Int32) (u : PS), p_G_arrange_L30 x0 x1 E88 n x2 u → XN l Z i_G_arrange u0 Kv u 30 [(0, .ref x0), (1, .int x1), (2, .int x2)] [] := by
  intro n
  induction n with
  | zero => intro x2 u k; exact False.elim k
  | succ n ih =>
    intro x2 u k
    rw [p_G_arrange_L30] at k
    by_cases hc1 : x1 ≤ x2
    · have k := k.1 hc1
      obtain ⟨rv, v9, hK, hle_u, w9⟩ := hE88 u k
      refine ⟨rv, v9, hK, hle_u, ?_⟩
      intro p e s m args below meth c A H locs ls F hw hl
      obtain ⟨⟨hx, hb, hml, hown, hts⟩, hr, hlocks, hmn⟩ := id F
      refine lv_iload_n hx hb d_G_arrange_30 rfl (lv_at hl 2 rfl) ?_
      refine lv_iload_n hx hb d_G_arrange_31 rfl (lv_at hl 1 rfl) ?_
      refine lv_icmp_ge (tgt := 88) hx hb d_G_arrange_32 (by decide) (fun _ => ?_) (fun c9 => absurd hc1 c9)
      exact w9 p e s m args below meth c A H locs ls F hw (lv_sub hl [] rfl)
    · have k := k.2 hc1
      obtain ⟨z_28, h2, k⟩ := k
      obtain ⟨z_29, h3, k⟩ := k
      obtain ⟨z_30, h4, k⟩ := k
      obtain ⟨z_31, h5, k⟩ := k
      by_cases hc6 : z_31 = x2
      · have k := k.1 hc6
        obtain ⟨rv, v9, hK, hle_u, w9⟩ := t_G_arrange_J82 l Z u0 x0 x1 x2 u ih hE88 k
        refine ⟨rv, v9, hK, hle_u, ?_⟩
        intro p e s m args below meth c A H locs ls F hw hl
        obtain ⟨⟨hx, hb, hml, hown, hts⟩, hr, hlocks, hmn⟩ := id F
        refine lv_iload_n hx hb d_G_arrange_30 rfl (lv_at hl 2 rfl) ?_
        refine lv_iload_n hx hb d_G_arrange_31 rfl (lv_at hl 1 rfl) ?_
        refine lv_icmp_ge (tgt := 88) hx hb d_G_arrange_32 (by decide) (fun c9 => absurd c9 hc1) (fun _ => ?_)
        refine lv_aload_n hx hb d_G_arrange_35 rfl (lv_at hl 0 rfl) ?_
        refine xr_get hx hb hts (xmu uws_G) hown hw h2 rfl (by decide) (hts _ (xm w_131)) (fun _ h9 => h9) d_G_arrange_36 ?_
        refine lv_aload_n hx hb d_G_arrange_39 rfl (lv_at hl 0 rfl) ?_
        refine xr_get hx hb hts (xmu uws_G) hown hw h3 rfl (by decide) (hts _ (xm w_125)) (fun _ h9 => h9) d_G_arrange_40 ?_
        refine lv_iload_n hx hb d_G_arrange_43 rfl (lv_at hl 2 rfl) ?_
        refine xr_iald hx hb hw h4 d_G_arrange_44 ?_
        refine xr_iald hx hb hw h5 d_G_arrange_45 ?_
        refine lv_istore_n (lv' := [(3, .int z_31), (0, .ref x0), (1, .int x1), (2, .int x2)]) hx hb d_G_arrange_46 rfl hl (by decide) rfl (fun ls hl => ?_)
        refine lv_iload_n hx hb d_G_arrange_47 rfl (lv_at hl 0 rfl) ?_
        refine lv_iload_n hx hb d_G_arrange_48 rfl (lv_at hl 3 rfl) ?_
        refine lv_icmp_eq (tgt := 82) hx hb d_G_arrange_49 (by decide) (fun _ => ?_) (fun c9 => absurd hc6 c9)
        exact w9 p e s m args below meth c A H locs ls F hw (lv_sub hl [1, 2, 3] rfl)
      · have k := k.2 hc6
        obtain ⟨h8, k⟩ := k
        obtain ⟨_, u_32, ⟨rfl, k⟩, hM7⟩ := c_G_exchange l Z x0 x2 z_31 u _ k
        obtain ⟨z_33, h9, k⟩ := k
        obtain ⟨z_34, h10, k⟩ := k
        obtain ⟨z_35, h11, k⟩ := k
        obtain ⟨u_36, h12, k⟩ := k
        obtain ⟨z_37, h13, k⟩ := k
        obtain ⟨z_38, h14, k⟩ := k
        obtain ⟨z_39, h15, k⟩ := k
        obtain ⟨u_40, h16, k⟩ := k
        obtain ⟨rv, v9, hK, hle_u_40, w9⟩ := t_G_arrange_J82 l Z u0 x0 x1 x2 u_40 ih hE88 k
        have hle_u_36 : x_le u_36 v9 := (h16.le).tr hle_u_40
        have hle_u_32 : x_le u_32 v9 := (h12.le).tr hle_u_36
        have hle_u : x_le u v9 := (hM7.1).tr hle_u_32
        refine ⟨rv, v9, hK, hle_u, ?_⟩
        intro p e s m args below meth c A H locs ls F hw hl
        obtain ⟨⟨hx, hb, hml, hown, hts⟩, hr, hlocks, hmn⟩ := id F
        refine lv_iload_n hx hb d_G_arrange_30 rfl (lv_at hl 2 rfl) ?_
        refine lv_iload_n hx hb d_G_arrange_31 rfl (lv_at hl 1 rfl) ?_
        refine lv_icmp_ge (tgt := 88) hx hb d_G_arrange_32 (by decide) (fun c9 => absurd c9 hc1) (fun _ => ?_)
        refine lv_aload_n hx hb d_G_arrange_35 rfl (lv_at hl 0 rfl) ?_
        refine xr_get hx hb hts (xmu uws_G) hown hw h2 rfl (by decide) (hts _ (xm w_131)) (fun _ h9 => h9) d_G_arrange_36 ?_
        refine lv_aload_n hx hb d_G_arrange_39 rfl (lv_at hl 0 rfl) ?_
        refine xr_get hx hb hts (xmu uws_G) hown hw h3 rfl (by decide) (hts _ (xm w_125)) (fun _ h9 => h9) d_G_arrange_40 ?_
        refine lv_iload_n hx hb d_G_arrange_43 rfl (lv_at hl 2 rfl) ?_
        refine xr_iald hx hb hw h4 d_G_arrange_44 ?_
        refine xr_iald hx hb hw h5 d_G_arrange_45 ?_
        refine lv_istore_n (lv' := [(3, .int z_31), (0, .ref x0), (1, .int x1), (2, .int x2)]) hx hb d_G_arrange_46 rfl hl (by decide) rfl (fun ls hl => ?_)
        refine lv_iload_n hx hb d_G_arrange_47 rfl (lv_at hl 0 rfl) ?_
        refine lv_iload_n hx hb d_G_arrange_48 rfl (lv_at hl 3 rfl) ?_
        refine lv_icmp_eq (tgt := 82) hx hb d_G_arrange_49 (by decide) (fun c9 => absurd c9 hc6) (fun _ => ?_)
        refine lv_aload_n hx hb d_G_arrange_52 rfl (lv_at hl 1 rfl) ?_
        refine lv_iload_n hx hb d_G_arrange_53 rfl (lv_at hl 3 rfl) ?_
        refine lv_iload_n hx hb d_G_arrange_54 rfl (lv_at hl 0 rfl) ?_
        refine xr_cV (As := [.int x2, .int z_31]) (rest := []) ⟨hx, hb, hml, hown, hts⟩ hw hM7 hle_u_32 (fun _ _ => ⟨callB_of 2 hts (xgood w_349) rfl rfl rfl (hts _ (xm w_6)) (hts _ (xm w_346)) ⟨by decide, by decide, by decide +kernel⟩ ⟨Nat.le_of_ble_eq_true rfl, Nat.le_of_ble_eq_true rfl⟩, (hts _ (xm w_348)), (hts _ (xm wp_10))⟩) (qc := (R_G, F_G, 10)) rfl rfl h8 rfl hl.1 rfl (Nat.le_of_ble_eq_true rfl) d_G_arrange_55 (fun H locs hw => ?_)
        refine W.eq (g2 := F0 m 58 ls []) rfl ?_
        refine lv_aload_n hx hb d_G_arrange_58 rfl (lv_at hl 1 rfl) ?_
        refine xr_get hx hb hts (xmu uws_G) hown hw h9 rfl (by decide) (hts _ (xm w_132)) (fun _ h9 => h9) d_G_arrange_59 ?_
        refine lv_iload_n hx hb d_G_arrange_62 rfl (lv_at hl 0 rfl) ?_
        refine lv_aload_n hx hb d_G_arrange_63 rfl (lv_at hl 1 rfl) ?_
        refine xr_get hx hb hts (xmu uws_G) hown hw h10 rfl (by decide) (hts _ (xm w_132)) (fun _ h9 => h9) d_G_arrange_64 ?_
        refine lv_iload_n hx hb d_G_arrange_67 rfl (lv_at hl 3 rfl) ?_
        refine xr_iald hx hb hw h11 d_G_arrange_68 ?_
        refine xr_iast hx hb hw h12 d_G_arrange_69 (fun H locs hw => ?_)
        refine lv_aload_n hx hb d_G_arrange_70 rfl (lv_at hl 1 rfl) ?_
        refine xr_get hx hb hts (xmu uws_G) hown hw h13 rfl (by decide) (hts _ (xm w_131)) (fun _ h9 => h9) d_G_arrange_71 ?_
        refine lv_aload_n hx hb d_G_arrange_74 rfl (lv_at hl 1 rfl) ?_
        refine xr_get hx hb hts (xmu uws_G) hown hw h14 rfl (by decide) (hts _ (xm w_132)) (fun _ h9 => h9) d_G_arrange_75 ?_
        refine lv_iload_n hx hb d_G_arrange_78 rfl (lv_at hl 0 rfl) ?_
        refine xr_iald hx hb hw h15 d_G_arrange_79 ?_
        refine lv_iload_n hx hb d_G_arrange_80 rfl (lv_at hl 0 rfl) ?_
        refine xr_iast hx hb hw h16 d_G_arrange_81 (fun H locs hw => ?_)
        exact w9 p e s m args below meth c A H locs ls F hw (lv_sub hl [1, 2, 3] rfl)
set_option maxRecDepth 100000 in
set_option maxHeartbeats 4000000 in
theorem t_G_arrange_J28 (l : Launch) (Z : XZ) (u0 : PS) {K : PS → Prop} (x0 : Nat) (x1 : Int32) (u : PS) (k : (p_G_arrange_J28 K x0 x1 u)) : XN l Z i_G_arrange u0 (kV K) u 28 [(0, .ref x0), (1, .int x1)] [] := by
  unfold p_G_arrange_J28 at k
  obtain ⟨n1, k⟩ := k
  have hx3 : ∀ (v2 : PS), (K v2) → XN l Z i_G_arrange u0 (kV K) v2 88 [] [] := by
    intro v2 k
    have hle_v2 : x_le v2 v2 := x_le.rf v2
    refine ⟨none, v2, ⟨rfl, k⟩, hle_v2, ?_⟩
    intro p e s m args below meth c A H locs ls F hw hl
    obtain ⟨⟨hx, hb, hml, hown, hts⟩, hr, hlocks, hmn⟩ := id F
    exact xr_vret F rfl hw d_G_arrange_88
  obtain ⟨rv, v9, hK, hle_u, w9⟩ := t_G_arrange_L30 l Z u0 x0 x1 hx3 n1 (0 : Int32) u k
  refine ⟨rv, v9, hK, hle_u, ?_⟩
  intro p e s m args below meth c A H locs ls F hw hl
  obtain ⟨⟨hx, hb, hml, hown, hts⟩, hr, hlocks, hmn⟩ := id F
  refine lv_iconst (v := 0) hx hb d_G_arrange_28 (by decide) ?_
  refine lv_istore_n (lv' := [(2, .int 0), (0, .ref x0), (1, .int x1)]) hx hb d_G_arrange_29 rfl hl (by decide) rfl (fun ls hl => ?_)
  exact w9 p e s m args below meth c A H locs ls F hw (lv_sub hl [1, 2, 0] rfl)
set_option maxRecDepth 100000 in
set_option maxHeartbeats 4000000 in
theorem c_G_arrange (l : Launch) (Z : XZ) (x0 : Nat) (x1 : Int32) (u : PS) (K : PS → Prop) (k : p_G_arrange x0 x1 u K) : ∃ (rv : Option Value) (u1 : PS), (kV K) rv u1 ∧ XMet l Z i_G_arrange [.ref x0, .int x1] u rv u1 := by
  refine x_met (by decide) rfl (Nat.le_of_ble_eq_true rfl) ?_
  show XN l Z i_G_arrange u (kV K) u 0 [(0, .ref x0), (1, .int x1)] []
  unfold p_G_arrange at k
  obtain ⟨n1, k⟩ := k
  have hx3 : ∀ (v2 : PS), (p_G_arrange_J28 K x0 x1 v2) → XN l Z i_G_arrange u (kV K) v2 28 [(0, .ref x0), (1, .int x1)] [] := by
    intro v2 k
    obtain ⟨rv, v9, hK, hle_v2, w9⟩ := t_G_arrange_J28 l Z u x0 x1 v2 k
    refine ⟨rv, v9, hK, hle_v2, ?_⟩
    intro p e s m args below meth c A H locs ls F hw hl
    obtain ⟨⟨hx, hb, hml, hown, hts⟩, hr, hlocks, hmn⟩ := id F
    exact w9 p e s m args below meth c A H locs ls F hw (lv_sub hl [0, 1] rfl)
  obtain ⟨rv, v9, hK, hle_u, w9⟩ := t_G_arrange_L2 l Z u x0 x1 hx3 n1 (0 : Int32) u k
  refine ⟨rv, v9, hK, hle_u, ?_⟩
  intro p e s m args below meth c A H locs ls F hw hl
  obtain ⟨⟨hx, hb, hml, hown, hts⟩, hr, hlocks, hmn⟩ := id F
  refine lv_iconst (v := 0) hx hb d_G_arrange_0 (by decide) ?_
  refine lv_istore_n (lv' := [(2, .int 0), (0, .ref x0), (1, .int x1)]) hx hb d_G_arrange_1 rfl hl (by decide) rfl (fun ls hl => ?_)
  exact w9 p e s m args below meth c A H locs ls F hw (lv_sub hl [1, 2, 0] rfl)
set_option maxRecDepth 100000 in
set_option maxHeartbeats 4000000 in
theorem t_G_ofFour_J75 (l : Launch) (Z : XZ) (u0 : PS) {K : Int32 → PS → Prop} (x0 : Nat) (x1 : Int32) (u : PS) (k : (p_G_ofFour_J75 K x0 x1 u)) : XN l Z i_G_ofFour u0 (kI K) u 75 [(0, .ref x0), (1, .int x1)] [] := by
  unfold p_G_ofFour_J75 at k
  obtain ⟨z_41, h1, k⟩ := k
  obtain ⟨z_42, h2, k⟩ := k
  have hle_u : x_le u u := x_le.rf u
  refine ⟨some (.int z_42), u, ⟨z_42, rfl, k⟩, hle_u, ?_⟩
  intro p e s m args below meth c A H locs ls F hw hl
  obtain ⟨⟨hx, hb, hml, hown, hts⟩, hr, hlocks, hmn⟩ := id F
  refine lv_aload_n hx hb d_G_ofFour_75 rfl (lv_at hl 0 rfl) ?_
  refine xr_get hx hb hts (xmu uws_G) hown hw h1 rfl (by decide) (hts _ (xm w_130)) (fun _ h9 => h9) d_G_ofFour_76 ?_
  refine lv_iload_n hx hb d_G_ofFour_79 rfl (lv_at hl 1 rfl) ?_
  refine xr_iald hx hb hw h2 d_G_ofFour_80 ?_
  exact xr_iret F rfl hw d_G_ofFour_81
set_option maxRecDepth 100000 in
set_option maxHeartbeats 4000000 in
theorem c_G_ofFour (l : Launch) (Z : XZ) (x0 : Nat) (x1 : Int32) (u : PS) (K : Int32 → PS → Prop) (k : p_G_ofFour x0 x1 u K) : ∃ (rv : Option Value) (u1 : PS), (kI K) rv u1 ∧ XMet l Z i_G_ofFour [.ref x0, .int x1] u rv u1 := by
  refine x_met (by decide) rfl (Nat.le_of_ble_eq_true rfl) ?_
  show XN l Z i_G_ofFour u (kI K) u 0 [(0, .ref x0), (1, .int x1)] []
  unfold p_G_ofFour at k
  obtain ⟨z_22, h1, k⟩ := k
  obtain ⟨z_23, h2, k⟩ := k
  by_cases hc3 : z_23 = (-1)
  · have k := k.2 hc3
    obtain ⟨z_24, h4, k⟩ := k
    obtain ⟨z_25, h5, k⟩ := k
    obtain ⟨z_26, h6, k⟩ := k
    obtain ⟨h8, k⟩ := k
    obtain ⟨_, u_27, ⟨r_28, rfl, k⟩, hM7⟩ := c_N_nodeFor l Z z_24 z_26 (x1 &&& (1 : Int32)) ((x1 >>> ((1 : Int32) &&& 31)) &&& (1 : Int32)) u _ k
    obtain ⟨z_29, h9, k⟩ := k
    obtain ⟨z_30, h10, k⟩ := k
    obtain ⟨z_31, h11, k⟩ := k
    obtain ⟨h13, k⟩ := k
    obtain ⟨_, u_32, ⟨r_33, rfl, k⟩, hM12⟩ := c_N_nodeFor l Z z_29 z_31 ((x1 >>> ((2 : Int32) &&& 31)) &&& (1 : Int32)) (x1 >>> ((3 : Int32) &&& 31)) u_27 _ k
    obtain ⟨z_34, h14, k⟩ := k
    obtain ⟨z_35, h15, k⟩ := k
    obtain ⟨z_36, h16, k⟩ := k
    obtain ⟨z_37, h17, k⟩ := k
    obtain ⟨h19, k⟩ := k
    obtain ⟨_, u_38, ⟨r_39, rfl, k⟩, hM18⟩ := c_N_nodeFor l Z z_35 z_37 r_28 r_33 u_32 _ k
    obtain ⟨u_40, h20, k⟩ := k
    obtain ⟨rv, v9, hK, hle_u_40, w9⟩ := t_G_ofFour_J75 l Z u x0 x1 u_40 k
    have hle_u_38 : x_le u_38 v9 := (h20.le).tr hle_u_40
    have hle_u_32 : x_le u_32 v9 := (hM18.1).tr hle_u_38
    have hle_u_27 : x_le u_27 v9 := (hM12.1).tr hle_u_32
    have hle_u : x_le u v9 := (hM7.1).tr hle_u_27
    refine ⟨rv, v9, hK, hle_u, ?_⟩
    intro p e s m args below meth c A H locs ls F hw hl
    obtain ⟨⟨hx, hb, hml, hown, hts⟩, hr, hlocks, hmn⟩ := id F
    refine lv_aload_n hx hb d_G_ofFour_0 rfl (lv_at hl 0 rfl) ?_
    refine xr_get hx hb hts (xmu uws_G) hown hw h1 rfl (by decide) (hts _ (xm w_130)) (fun _ h9 => h9) d_G_ofFour_1 ?_
    refine lv_iload_n hx hb d_G_ofFour_4 rfl (lv_at hl 1 rfl) ?_
    refine xr_iald hx hb hw h2 d_G_ofFour_5 ?_
    refine lv_iconst (v := (-1)) hx hb d_G_ofFour_6 (by decide) ?_
    refine lv_icmp_ne (tgt := 75) hx hb d_G_ofFour_7 (by decide) (fun c9 => absurd hc3 c9) (fun _ => ?_)
    refine lv_aload_n hx hb d_G_ofFour_10 rfl (lv_at hl 0 rfl) ?_
    refine xr_get hx hb hts (xmu uws_G) hown hw h4 rfl (by decide) (hts _ (xm w_124)) (fun _ h9 => h9) d_G_ofFour_11 ?_
    refine lv_aload_n hx hb d_G_ofFour_14 rfl (lv_at hl 0 rfl) ?_
    refine xr_get hx hb hts (xmu uws_G) hown hw h5 rfl (by decide) (hts _ (xm w_125)) (fun _ h9 => h9) d_G_ofFour_15 ?_
    refine lv_iconst (v := 0) hx hb d_G_ofFour_18 (by decide) ?_
    refine xr_iald hx hb hw h6 d_G_ofFour_19 ?_
    refine lv_iload_n hx hb d_G_ofFour_20 rfl (lv_at hl 1 rfl) ?_
    refine lv_iconst (v := 1) hx hb d_G_ofFour_21 (by decide) ?_
    refine lv_iand hx hb d_G_ofFour_22 ?_
    refine lv_iload_n hx hb d_G_ofFour_23 rfl (lv_at hl 1 rfl) ?_
    refine lv_iconst (v := 1) hx hb d_G_ofFour_24 (by decide) ?_
    refine lv_ishr hx hb d_G_ofFour_25 ?_
    refine lv_iconst (v := 1) hx hb d_G_ofFour_26 (by decide) ?_
    refine lv_iand hx hb d_G_ofFour_27 ?_
    refine xr_cV (As := [.int z_26, .int (x1 &&& (1 : Int32)), .int ((x1 >>> ((1 : Int32) &&& 31)) &&& (1 : Int32))]) (rest := []) ⟨hx, hb, hml, hown, hts⟩ hw hM7 hle_u_27 (fun _ _ => ⟨callB_of 3 hts (xgood w_317) rfl rfl rfl (hts _ (xm w_4)) (hts _ (xm w_314)) ⟨by decide, by decide, by decide +kernel⟩ ⟨Nat.le_of_ble_eq_true rfl, Nat.le_of_ble_eq_true rfl⟩, (hts _ (xm w_315)), (hts _ (xm w_316))⟩) (qc := (R_N, F_N, 13)) rfl rfl h8 rfl hl.1 rfl (Nat.le_of_ble_eq_true rfl) d_G_ofFour_28 (fun H locs hw => ?_)
    refine W.eq (g2 := F0 m 31 ls [.int r_28]) rfl ?_
    refine lv_istore_n (lv' := [(2, .int r_28), (0, .ref x0), (1, .int x1)]) hx hb d_G_ofFour_31 rfl hl (by decide) rfl (fun ls hl => ?_)
    refine lv_aload_n hx hb d_G_ofFour_32 rfl (lv_at hl 1 rfl) ?_
    refine xr_get hx hb hts (xmu uws_G) hown hw h9 rfl (by decide) (hts _ (xm w_124)) (fun _ h9 => h9) d_G_ofFour_33 ?_
    refine lv_aload_n hx hb d_G_ofFour_36 rfl (lv_at hl 1 rfl) ?_
    refine xr_get hx hb hts (xmu uws_G) hown hw h10 rfl (by decide) (hts _ (xm w_125)) (fun _ h9 => h9) d_G_ofFour_37 ?_
    refine lv_iconst (v := 0) hx hb d_G_ofFour_40 (by decide) ?_
    refine xr_iald hx hb hw h11 d_G_ofFour_41 ?_
    refine lv_iload_n hx hb d_G_ofFour_42 rfl (lv_at hl 2 rfl) ?_
    refine lv_iconst (v := 2) hx hb d_G_ofFour_43 (by decide) ?_
    refine lv_ishr hx hb d_G_ofFour_44 ?_
    refine lv_iconst (v := 1) hx hb d_G_ofFour_45 (by decide) ?_
    refine lv_iand hx hb d_G_ofFour_46 ?_
    refine lv_iload_n hx hb d_G_ofFour_47 rfl (lv_at hl 2 rfl) ?_
    refine lv_iconst (v := 3) hx hb d_G_ofFour_48 (by decide) ?_
    refine lv_ishr hx hb d_G_ofFour_49 ?_
    refine xr_cV (As := [.int z_31, .int ((x1 >>> ((2 : Int32) &&& 31)) &&& (1 : Int32)), .int (x1 >>> ((3 : Int32) &&& 31))]) (rest := []) ⟨hx, hb, hml, hown, hts⟩ hw hM12 hle_u_32 (fun _ _ => ⟨callB_of 3 hts (xgood w_317) rfl rfl rfl (hts _ (xm w_4)) (hts _ (xm w_314)) ⟨by decide, by decide, by decide +kernel⟩ ⟨Nat.le_of_ble_eq_true rfl, Nat.le_of_ble_eq_true rfl⟩, (hts _ (xm w_315)), (hts _ (xm w_316))⟩) (qc := (R_N, F_N, 13)) rfl rfl h13 rfl hl.1 rfl (Nat.le_of_ble_eq_true rfl) d_G_ofFour_50 (fun H locs hw => ?_)
    refine W.eq (g2 := F0 m 53 ls [.int r_33]) rfl ?_
    refine lv_istore_n (lv' := [(3, .int r_33), (2, .int r_28), (0, .ref x0), (1, .int x1)]) hx hb d_G_ofFour_53 rfl hl (by decide) rfl (fun ls hl => ?_)
    refine lv_aload_n hx hb d_G_ofFour_54 rfl (lv_at hl 2 rfl) ?_
    refine xr_get hx hb hts (xmu uws_G) hown hw h14 rfl (by decide) (hts _ (xm w_130)) (fun _ h9 => h9) d_G_ofFour_55 ?_
    refine lv_iload_n hx hb d_G_ofFour_58 rfl (lv_at hl 3 rfl) ?_
    refine lv_aload_n hx hb d_G_ofFour_59 rfl (lv_at hl 2 rfl) ?_
    refine xr_get hx hb hts (xmu uws_G) hown hw h15 rfl (by decide) (hts _ (xm w_124)) (fun _ h9 => h9) d_G_ofFour_60 ?_
    refine lv_aload_n hx hb d_G_ofFour_63 rfl (lv_at hl 2 rfl) ?_
    refine xr_get hx hb hts (xmu uws_G) hown hw h16 rfl (by decide) (hts _ (xm w_125)) (fun _ h9 => h9) d_G_ofFour_64 ?_
    refine lv_iconst (v := 1) hx hb d_G_ofFour_67 (by decide) ?_
    refine xr_iald hx hb hw h17 d_G_ofFour_68 ?_
    refine lv_iload_n hx hb d_G_ofFour_69 rfl (lv_at hl 1 rfl) ?_
    refine lv_iload_n hx hb d_G_ofFour_70 rfl (lv_at hl 0 rfl) ?_
    refine xr_cV (As := [.int z_37, .int r_28, .int r_33]) (rest := [.int x1, .ref z_34]) ⟨hx, hb, hml, hown, hts⟩ hw hM18 hle_u_38 (fun _ _ => ⟨callB_of 3 hts (xgood w_317) rfl rfl rfl (hts _ (xm w_4)) (hts _ (xm w_314)) ⟨by decide, by decide, by decide +kernel⟩ ⟨Nat.le_of_ble_eq_true rfl, Nat.le_of_ble_eq_true rfl⟩, (hts _ (xm w_315)), (hts _ (xm w_316))⟩) (qc := (R_N, F_N, 13)) rfl rfl h19 rfl hl.1 rfl (Nat.le_of_ble_eq_true rfl) d_G_ofFour_71 (fun H locs hw => ?_)
    refine W.eq (g2 := F0 m 74 ls [.int r_39, .int x1, .ref z_34]) rfl ?_
    refine xr_iast hx hb hw h20 d_G_ofFour_74 (fun H locs hw => ?_)
    exact w9 p e s m args below meth c A H locs ls F hw (lv_sub hl [2, 3] rfl)
  · have k := k.1 hc3
    obtain ⟨rv, v9, hK, hle_u, w9⟩ := t_G_ofFour_J75 l Z u x0 x1 u k
    refine ⟨rv, v9, hK, hle_u, ?_⟩
    intro p e s m args below meth c A H locs ls F hw hl
    obtain ⟨⟨hx, hb, hml, hown, hts⟩, hr, hlocks, hmn⟩ := id F
    refine lv_aload_n hx hb d_G_ofFour_0 rfl (lv_at hl 0 rfl) ?_
    refine xr_get hx hb hts (xmu uws_G) hown hw h1 rfl (by decide) (hts _ (xm w_130)) (fun _ h9 => h9) d_G_ofFour_1 ?_
    refine lv_iload_n hx hb d_G_ofFour_4 rfl (lv_at hl 1 rfl) ?_
    refine xr_iald hx hb hw h2 d_G_ofFour_5 ?_
    refine lv_iconst (v := (-1)) hx hb d_G_ofFour_6 (by decide) ?_
    refine lv_icmp_ne (tgt := 75) hx hb d_G_ofFour_7 (by decide) (fun _ => ?_) (fun c9 => absurd c9 hc3)
    exact w9 p e s m args below meth c A H locs ls F hw (lv_sub hl [0, 1] rfl)
set_option maxRecDepth 100000 in
set_option maxHeartbeats 4000000 in
theorem t_G_ofWords_L2 (l : Launch) (Z : XZ) (u0 : PS) {Kv : Option Value → PS → Prop} {E29 : PS → Prop} (x0 : Nat) (x1 : Int32) (x2 : Int32) (hE29 : ∀ (v : PS), E29 v → XN l Z i_G_ofWords u0 Kv v 29 [(0, .ref x0), (2, .int x2)] []) : ∀ (n : Nat) (x3 : Int32) (u : PS), p_G_ofWords_L2 x0 x1 x2 E29 n x3 u → XN l Z i_G_ofWords u0 Kv u 2 [(0, .ref x0), (1, .int x1), (2, .int x2), (3, .int x3)] [] := by
  intro n
  induction n with
  | zero => intro x3 u k; exact False.elim k
  | succ n ih =>
    intro x3 u k
    rw [p_G_ofWords_L2] at k
    by_cases hc1 : 16 ≤ x3
    · have k := k.1 hc1
      obtain ⟨rv, v9, hK, hle_u, w9⟩ := hE29 u k
      refine ⟨rv, v9, hK, hle_u, ?_⟩
      intro p e s m args below meth c A H locs ls F hw hl
      obtain ⟨⟨hx, hb, hml, hown, hts⟩, hr, hlocks, hmn⟩ := id F
      refine lv_iload_n hx hb d_G_ofWords_2 rfl (lv_at hl 3 rfl) ?_
      refine lv_bipush (v := 16) hx hb d_G_ofWords_3 (by decide) ?_
      refine lv_icmp_ge (tgt := 29) hx hb d_G_ofWords_5 (by decide) (fun _ => ?_) (fun c9 => absurd hc1 c9)
      exact w9 p e s m args below meth c A H locs ls F hw (lv_sub hl [0, 2] rfl)
    · have k := k.2 hc1
      obtain ⟨z_48, h2, k⟩ := k
      obtain ⟨z_49, h3, k⟩ := k
      obtain ⟨h5, k⟩ := k
      obtain ⟨_, u_50, ⟨r_51, rfl, k⟩, hM4⟩ := c_F_word l Z z_49 x1 x3 u _ k
      obtain ⟨u_52, h6, k⟩ := k
      obtain ⟨y7, ey7⟩ : ∃ y9 : Int32, y9 = x3 + 1 := ⟨_, rfl⟩
      have k := k y7 ey7
      obtain ⟨rv, v9, hK, hle_u_52, w9⟩ := ih y7 u_52 k
      have hle_u_50 : x_le u_50 v9 := (h6.le).tr hle_u_52
      have hle_u : x_le u v9 := (hM4.1).tr hle_u_50
      refine ⟨rv, v9, hK, hle_u, ?_⟩
      intro p e s m args below meth c A H locs ls F hw hl
      obtain ⟨⟨hx, hb, hml, hown, hts⟩, hr, hlocks, hmn⟩ := id F
      refine lv_iload_n hx hb d_G_ofWords_2 rfl (lv_at hl 3 rfl) ?_
      refine lv_bipush (v := 16) hx hb d_G_ofWords_3 (by decide) ?_
      refine lv_icmp_ge (tgt := 29) hx hb d_G_ofWords_5 (by decide) (fun c9 => absurd c9 hc1) (fun _ => ?_)
      refine lv_aload_n hx hb d_G_ofWords_8 rfl (lv_at hl 0 rfl) ?_
      refine xr_get hx hb hts (xmu uws_G) hown hw h2 rfl (by decide) (hts _ (xm w_128)) (fun _ h9 => h9) d_G_ofWords_9 ?_
      refine lv_iload_n hx hb d_G_ofWords_12 rfl (lv_at hl 3 rfl) ?_
      refine lv_aload_n hx hb d_G_ofWords_13 rfl (lv_at hl 0 rfl) ?_
      refine xr_get hx hb hts (xmu uws_G) hown hw h3 rfl (by decide) (hts _ (xm w_123)) (fun _ h9 => h9) d_G_ofWords_14 ?_
      refine lv_iload_n hx hb d_G_ofWords_17 rfl (lv_at hl 1 rfl) ?_
      refine lv_iload_n hx hb d_G_ofWords_18 rfl (lv_at hl 3 rfl) ?_
      refine xr_cV (As := [.int x1, .int x3]) (rest := [.int x3, .ref z_48]) ⟨hx, hb, hml, hown, hts⟩ hw hM4 hle_u_50 (fun _ _ => ⟨callB_of 2 hts (xgood w_341) rfl rfl rfl (hts _ (xm w_2)) (hts _ (xm w_338)) ⟨by decide, by decide, by decide +kernel⟩ ⟨Nat.le_of_ble_eq_true rfl, Nat.le_of_ble_eq_true rfl⟩, (hts _ (xm w_339)), (hts _ (xm w_340))⟩) (qc := (R_F, F_F, 5)) rfl rfl h5 rfl hl.1 rfl (Nat.le_of_ble_eq_true rfl) d_G_ofWords_19 (fun H locs hw => ?_)
      refine W.eq (g2 := F0 m 22 ls [.long r_51, .int x3, .ref z_48]) rfl ?_
      refine xr_last hx hb hw h6 d_G_ofWords_22 (fun H locs hw => ?_)
      refine lv_iinc (v := y7) (lv' := [(3, .int y7), (0, .ref x0), (1, .int x1), (2, .int x2)]) hx hb d_G_ofWords_23 hl (k := 3) rfl (by subst ey7; rfl) (by decide) rfl (fun ls hl => ?_)
      refine lv_goto (tgt := 2) hx hb d_G_ofWords_26 (by decide) ?_
      exact w9 p e s m args below meth c A H locs ls F hw (lv_sub hl [1, 2, 3, 0] rfl)
set_option maxRecDepth 100000 in
set_option maxHeartbeats 4000000 in
theorem t_G_ofWords_L36 (l : Launch) (Z : XZ) (u0 : PS) {Kv : Option Value → PS → Prop} {E55 : PS → Prop} (x0 : Nat) (x2 : Int32) (hE55 : ∀ (v : PS), E55 v → XN l Z i_G_ofWords u0 Kv v 55 [(0, .ref x0), (2, .int x2)] []) : ∀ (n : Nat) (x3 : Int32) (u : PS), p_G_ofWords_L36 x0 x2 E55 n x3 u → XN l Z i_G_ofWords u0 Kv u 36 [(0, .ref x0), (2, .int x2), (3, .int x3)] [] := by
  intro n
  induction n with
  | zero => intro x3 u k; exact False.elim k
  | succ n ih =>
    intro x3 u k
    rw [p_G_ofWords_L36] at k
    by_cases hc1 : 16 ≤ x3
    · have k := k.1 hc1
      obtain ⟨rv, v9, hK, hle_u, w9⟩ := hE55 u k
      refine ⟨rv, v9, hK, hle_u, ?_⟩
      intro p e s m args below meth c A H locs ls F hw hl
      obtain ⟨⟨hx, hb, hml, hown, hts⟩, hr, hlocks, hmn⟩ := id F
      refine lv_iload_n hx hb d_G_ofWords_36 rfl (lv_at hl 2 rfl) ?_
      refine lv_bipush (v := 16) hx hb d_G_ofWords_37 (by decide) ?_
      refine lv_icmp_ge (tgt := 55) hx hb d_G_ofWords_39 (by decide) (fun _ => ?_) (fun c9 => absurd hc1 c9)
      exact w9 p e s m args below meth c A H locs ls F hw (lv_sub hl [0, 1] rfl)
    · have k := k.2 hc1
      obtain ⟨z_54, h2, k⟩ := k
      obtain ⟨u_55, h3, k⟩ := k
      obtain ⟨y4, ey4⟩ : ∃ y9 : Int32, y9 = x3 + 1 := ⟨_, rfl⟩
      have k := k y4 ey4
      obtain ⟨rv, v9, hK, hle_u_55, w9⟩ := ih y4 u_55 k
      have hle_u : x_le u v9 := (h3.le).tr hle_u_55
      refine ⟨rv, v9, hK, hle_u, ?_⟩
      intro p e s m args below meth c A H locs ls F hw hl
      obtain ⟨⟨hx, hb, hml, hown, hts⟩, hr, hlocks, hmn⟩ := id F
      refine lv_iload_n hx hb d_G_ofWords_36 rfl (lv_at hl 2 rfl) ?_
      refine lv_bipush (v := 16) hx hb d_G_ofWords_37 (by decide) ?_
      refine lv_icmp_ge (tgt := 55) hx hb d_G_ofWords_39 (by decide) (fun c9 => absurd c9 hc1) (fun _ => ?_)
      refine lv_aload_n hx hb d_G_ofWords_42 rfl (lv_at hl 0 rfl) ?_
      refine xr_get hx hb hts (xmu uws_G) hown hw h2 rfl (by decide) (hts _ (xm w_130)) (fun _ h9 => h9) d_G_ofWords_43 ?_
      refine lv_iload_n hx hb d_G_ofWords_46 rfl (lv_at hl 2 rfl) ?_
      refine lv_iconst (v := (-1)) hx hb d_G_ofWords_47 (by decide) ?_
      refine xr_iast hx hb hw h3 d_G_ofWords_48 (fun H locs hw => ?_)
      refine lv_iinc (v := y4) (lv' := [(3, .int y4), (0, .ref x0), (2, .int x2)]) hx hb d_G_ofWords_49 hl (k := 2) rfl (by subst ey4; rfl) (by decide) rfl (fun ls hl => ?_)
      refine lv_goto (tgt := 36) hx hb d_G_ofWords_52 (by decide) ?_
      exact w9 p e s m args below meth c A H locs ls F hw (lv_sub hl [1, 2, 0] rfl)
set_option maxRecDepth 100000 in
set_option maxHeartbeats 4000000 in
theorem t_G_ofWords_L74 (l : Launch) (Z : XZ) (u0 : PS) {Kv : Option Value → PS → Prop} {E105 : Int32 → PS → Prop} (x0 : Nat) (x2 : Int32) (x3 : Int32) (x4 : Int32) (hE105 : ∀ (y5 : Int32) (v : PS), E105 y5 v → XN l Z i_G_ofWords u0 Kv v 105 [(0, .ref x0), (2, .int x2), (3, .int x3), (4, .int x4), (5, .int y5)] []) : ∀ (n : Nat) (x5 : Int32) (u : PS), p_G_ofWords_L74 x0 x2 x3 x4 E105 n x5 u → XN l Z i_G_ofWords u0 Kv u 74 [(0, .ref x0), (2, .int x2), (3, .int x3), (4, .int x4), (5, .int x5)] [] := by
  intro n
  induction n with
  | zero => intro x5 u k; exact False.elim k
  | succ n ih =>
    intro x5 u k
    rw [p_G_ofWords_L74] at k
    by_cases hc1 : x4 ≤ x5
    · have k := k.1 hc1
      obtain ⟨rv, v9, hK, hle_u, w9⟩ := hE105 x5 u k
      refine ⟨rv, v9, hK, hle_u, ?_⟩
      intro p e s m args below meth c A H locs ls F hw hl
      obtain ⟨⟨hx, hb, hml, hown, hts⟩, hr, hlocks, hmn⟩ := id F
      refine lv_iload hx hb d_G_ofWords_74 (lv_at hl 4 rfl) ?_
      refine lv_iload hx hb d_G_ofWords_76 (lv_at hl 3 rfl) ?_
      refine lv_icmp_ge (tgt := 105) hx hb d_G_ofWords_78 (by decide) (fun _ => ?_) (fun c9 => absurd hc1 c9)
      exact w9 p e s m args below meth c A H locs ls F hw (lv_sub hl [0, 1, 2, 3, 4] rfl)
    · have k := k.2 hc1
      obtain ⟨z_56, h2, k⟩ := k
      obtain ⟨z_57, h3, k⟩ := k
      obtain ⟨z_58, h4, k⟩ := k
      obtain ⟨z_59, h5, k⟩ := k
      by_cases hc6 : (lg_cmp z_57 z_59) = 0
      · have k := k.1 hc6
        obtain ⟨rv, v9, hK, hle_u, w9⟩ := hE105 x5 u k
        refine ⟨rv, v9, hK, hle_u, ?_⟩
        intro p e s m args below meth c A H locs ls F hw hl
        obtain ⟨⟨hx, hb, hml, hown, hts⟩, hr, hlocks, hmn⟩ := id F
        refine lv_iload hx hb d_G_ofWords_74 (lv_at hl 4 rfl) ?_
        refine lv_iload hx hb d_G_ofWords_76 (lv_at hl 3 rfl) ?_
        refine lv_icmp_ge (tgt := 105) hx hb d_G_ofWords_78 (by decide) (fun c9 => absurd c9 hc1) (fun _ => ?_)
        refine lv_aload_n hx hb d_G_ofWords_81 rfl (lv_at hl 0 rfl) ?_
        refine xr_get hx hb hts (xmu uws_G) hown hw h2 rfl (by decide) (hts _ (xm w_128)) (fun _ h9 => h9) d_G_ofWords_82 ?_
        refine lv_iload hx hb d_G_ofWords_85 (lv_at hl 4 rfl) ?_
        refine xr_lald hx hb hw h3 d_G_ofWords_87 ?_
        refine lv_aload_n hx hb d_G_ofWords_88 rfl (lv_at hl 0 rfl) ?_
        refine xr_get hx hb hts (xmu uws_G) hown hw h4 rfl (by decide) (hts _ (xm w_128)) (fun _ h9 => h9) d_G_ofWords_89 ?_
        refine lv_iload hx hb d_G_ofWords_92 (lv_at hl 3 rfl) ?_
        refine xr_lald hx hb hw h5 d_G_ofWords_94 ?_
        refine W.lcmp hx hb d_G_ofWords_95 ?_
        refine lv_if_eq (tgt := 105) hx hb d_G_ofWords_96 (by decide) (fun _ => ?_) (fun c9 => absurd hc6 c9)
        exact w9 p e s m args below meth c A H locs ls F hw (lv_sub hl [0, 1, 2, 3, 4] rfl)
      · have k := k.2 hc6
        obtain ⟨y7, ey7⟩ : ∃ y9 : Int32, y9 = x5 + 1 := ⟨_, rfl⟩
        have k := k y7 ey7
        obtain ⟨rv, v9, hK, hle_u, w9⟩ := ih y7 u k
        refine ⟨rv, v9, hK, hle_u, ?_⟩
        intro p e s m args below meth c A H locs ls F hw hl
        obtain ⟨⟨hx, hb, hml, hown, hts⟩, hr, hlocks, hmn⟩ := id F
        refine lv_iload hx hb d_G_ofWords_74 (lv_at hl 4 rfl) ?_
        refine lv_iload hx hb d_G_ofWords_76 (lv_at hl 3 rfl) ?_
        refine lv_icmp_ge (tgt := 105) hx hb d_G_ofWords_78 (by decide) (fun c9 => absurd c9 hc1) (fun _ => ?_)
        refine lv_aload_n hx hb d_G_ofWords_81 rfl (lv_at hl 0 rfl) ?_
        refine xr_get hx hb hts (xmu uws_G) hown hw h2 rfl (by decide) (hts _ (xm w_128)) (fun _ h9 => h9) d_G_ofWords_82 ?_
        refine lv_iload hx hb d_G_ofWords_85 (lv_at hl 4 rfl) ?_
        refine xr_lald hx hb hw h3 d_G_ofWords_87 ?_
        refine lv_aload_n hx hb d_G_ofWords_88 rfl (lv_at hl 0 rfl) ?_
        refine xr_get hx hb hts (xmu uws_G) hown hw h4 rfl (by decide) (hts _ (xm w_128)) (fun _ h9 => h9) d_G_ofWords_89 ?_
        refine lv_iload hx hb d_G_ofWords_92 (lv_at hl 3 rfl) ?_
        refine xr_lald hx hb hw h5 d_G_ofWords_94 ?_
        refine W.lcmp hx hb d_G_ofWords_95 ?_
        refine lv_if_eq (tgt := 105) hx hb d_G_ofWords_96 (by decide) (fun c9 => absurd c9 hc6) (fun _ => ?_)
        refine lv_iinc (v := y7) (lv' := [(5, .int y7), (0, .ref x0), (2, .int x2), (3, .int x3), (4, .int x4)]) hx hb d_G_ofWords_99 hl (k := 4) rfl (by subst ey7; rfl) (by decide) rfl (fun ls hl => ?_)
        refine lv_goto (tgt := 74) hx hb d_G_ofWords_102 (by decide) ?_
        exact w9 p e s m args below meth c A H locs ls F hw (lv_sub hl [1, 2, 3, 4, 0] rfl)
set_option maxRecDepth 100000 in
set_option maxHeartbeats 4000000 in
theorem t_G_ofWords_L132 (l : Launch) (Z : XZ) (u0 : PS) {Kv : Option Value → PS → Prop} {E172 : PS → Prop} (x0 : Nat) (x2 : Int32) (x3 : Int32) (x4 : Int32) (hE172 : ∀ (v : PS), E172 v → XN l Z i_G_ofWords u0 Kv v 172 [(0, .ref x0), (2, .int x2), (3, .int x3), (4, .int x4)] []) : ∀ (n : Nat) (x6 : Int32) (u : PS), p_G_ofWords_L132 x0 x2 x3 x4 E172 n x6 u → XN l Z i_G_ofWords u0 Kv u 132 [(0, .ref x0), (2, .int x2), (3, .int x3), (4, .int x4), (6, .int x6)] [] := by
  intro n
  induction n with
  | zero => intro x6 u k; exact False.elim k
  | succ n ih =>
    intro x6 u k
    rw [p_G_ofWords_L132] at k
    by_cases hc1 : 16 ≤ x6
    · have k := k.1 hc1
      obtain ⟨rv, v9, hK, hle_u, w9⟩ := hE172 u k
      refine ⟨rv, v9, hK, hle_u, ?_⟩
      intro p e s m args below meth c A H locs ls F hw hl
      obtain ⟨⟨hx, hb, hml, hown, hts⟩, hr, hlocks, hmn⟩ := id F
      refine lv_iload hx hb d_G_ofWords_132 (lv_at hl 4 rfl) ?_
      refine lv_bipush (v := 16) hx hb d_G_ofWords_134 (by decide) ?_
      refine lv_icmp_ge (tgt := 172) hx hb d_G_ofWords_136 (by decide) (fun _ => ?_) (fun c9 => absurd hc1 c9)
      exact w9 p e s m args below meth c A H locs ls F hw (lv_sub hl [0, 1, 2, 3] rfl)
    · have k := k.2 hc1
      obtain ⟨z_60, h2, k⟩ := k
      obtain ⟨z_61, h3, k⟩ := k
      obtain ⟨z_62, h4, k⟩ := k
      obtain ⟨h6, k⟩ := k
      obtain ⟨_, u_63, ⟨r_64, rfl, k⟩, hM5⟩ := c_G_ofFour l Z x0 ((((z_62.toUInt64 >>> (((4 : Int32) * x6).toInt64.toUInt64 &&& Int64.toUInt64 63)).toInt64).toInt32) &&& (15 : Int32)) u _ k
      obtain ⟨u_65, h7, k⟩ := k
      obtain ⟨y8, ey8⟩ : ∃ y9 : Int32, y9 = x6 + 1 := ⟨_, rfl⟩
      have k := k y8 ey8
      obtain ⟨rv, v9, hK, hle_u_65, w9⟩ := ih y8 u_65 k
      have hle_u_63 : x_le u_63 v9 := (h7.le).tr hle_u_65
      have hle_u : x_le u v9 := (hM5.1).tr hle_u_63
      refine ⟨rv, v9, hK, hle_u, ?_⟩
      intro p e s m args below meth c A H locs ls F hw hl
      obtain ⟨⟨hx, hb, hml, hown, hts⟩, hr, hlocks, hmn⟩ := id F
      refine lv_iload hx hb d_G_ofWords_132 (lv_at hl 4 rfl) ?_
      refine lv_bipush (v := 16) hx hb d_G_ofWords_134 (by decide) ?_
      refine lv_icmp_ge (tgt := 172) hx hb d_G_ofWords_136 (by decide) (fun c9 => absurd c9 hc1) (fun _ => ?_)
      refine lv_aload_n hx hb d_G_ofWords_139 rfl (lv_at hl 0 rfl) ?_
      refine xr_get hx hb hts (xmu uws_G) hown hw h2 rfl (by decide) (hts _ (xm w_127)) (fun _ h9 => h9) d_G_ofWords_140 ?_
      refine lv_iload hx hb d_G_ofWords_143 (lv_at hl 4 rfl) ?_
      refine lv_aload_n hx hb d_G_ofWords_145 rfl (lv_at hl 0 rfl) ?_
      refine lv_aload_n hx hb d_G_ofWords_146 rfl (lv_at hl 0 rfl) ?_
      refine xr_get hx hb hts (xmu uws_G) hown hw h3 rfl (by decide) (hts _ (xm w_128)) (fun _ h9 => h9) d_G_ofWords_147 ?_
      refine lv_iload hx hb d_G_ofWords_150 (lv_at hl 3 rfl) ?_
      refine xr_lald hx hb hw h4 d_G_ofWords_152 ?_
      refine lv_iconst (v := 4) hx hb d_G_ofWords_153 (by decide) ?_
      refine lv_iload hx hb d_G_ofWords_154 (lv_at hl 4 rfl) ?_
      refine lv_imul hx hb d_G_ofWords_156 ?_
      refine lv_lushr hx hb d_G_ofWords_157 rfl ?_
      refine lv_l2i hx hb d_G_ofWords_158 rfl ?_
      refine lv_bipush (v := 15) hx hb d_G_ofWords_159 (by decide) ?_
      refine lv_iand hx hb d_G_ofWords_161 ?_
      refine xr_cV (As := [.int ((((z_62.toUInt64 >>> (((4 : Int32) * x6).toInt64.toUInt64 &&& Int64.toUInt64 63)).toInt64).toInt32) &&& (15 : Int32))]) (rest := [.int x6, .ref z_60]) ⟨hx, hb, hml, hown, hts⟩ hw hM5 hle_u_63 (fun _ _ => ⟨callB_of 1 hts (xgood w_367) rfl rfl rfl (hts _ (xm w_6)) (hts _ (xm w_364)) ⟨by decide, by decide, by decide +kernel⟩ ⟨Nat.le_of_ble_eq_true rfl, Nat.le_of_ble_eq_true rfl⟩, (hts _ (xm w_366)), (hts _ (xm wp_14))⟩) (qc := (R_G, F_G, 10)) rfl rfl h6 rfl hl.1 rfl (Nat.le_of_ble_eq_true rfl) d_G_ofWords_162 (fun H locs hw => ?_)
      refine W.eq (g2 := F0 m 165 ls [.int r_64, .int x6, .ref z_60]) rfl ?_
      refine xr_iast hx hb hw h7 d_G_ofWords_165 (fun H locs hw => ?_)
      refine lv_iinc (v := y8) (lv' := [(6, .int y8), (0, .ref x0), (2, .int x2), (3, .int x3), (4, .int x4)]) hx hb d_G_ofWords_166 hl (k := 4) rfl (by subst ey8; rfl) (by decide) rfl (fun ls hl => ?_)
      refine lv_goto (tgt := 132) hx hb d_G_ofWords_169 (by decide) ?_
      exact w9 p e s m args below meth c A H locs ls F hw (lv_sub hl [1, 2, 3, 4, 0] rfl)
set_option maxRecDepth 100000 in
set_option maxHeartbeats 4000000 in
theorem t_G_ofWords_J190 (l : Launch) (Z : XZ) (u0 : PS) {Kv : Option Value → PS → Prop} {R : Int32 → PS → Prop} {E196 : PS → Prop} (x0 : Nat) (x2 : Int32) (x3 : Int32) (x4 : Int32) (u : PS) (hR : ∀ (y4 : Int32) (v : PS), R y4 v → XN l Z i_G_ofWords u0 Kv v 65 [(0, .ref x0), (2, .int x2), (3, .int x3), (4, .int y4)] []) (hE196 : ∀ (v : PS), E196 v → XN l Z i_G_ofWords u0 Kv v 196 [(0, .ref x0), (2, .int x2)] []) (k : (p_G_ofWords_J190 R E196 x0 x2 x3 x4 u)) : XN l Z i_G_ofWords u0 Kv u 190 [(0, .ref x0), (2, .int x2), (3, .int x3), (4, .int x4)] [] := by
  unfold p_G_ofWords_J190 at k
  obtain ⟨y1, ey1⟩ : ∃ y9 : Int32, y9 = x4 + 1 := ⟨_, rfl⟩
  have k := k y1 ey1
  obtain ⟨rv, v9, hK, hle_u, w9⟩ := hR y1 u k
  refine ⟨rv, v9, hK, hle_u, ?_⟩
  intro p e s m args below meth c A H locs ls F hw hl
  obtain ⟨⟨hx, hb, hml, hown, hts⟩, hr, hlocks, hmn⟩ := id F
  refine lv_iinc (v := y1) (lv' := [(4, .int y1), (0, .ref x0), (2, .int x2), (3, .int x3)]) hx hb d_G_ofWords_190 hl (k := 3) rfl (by subst ey1; rfl) (by decide) rfl (fun ls hl => ?_)
  refine lv_goto (tgt := 65) hx hb d_G_ofWords_193 (by decide) ?_
  exact w9 p e s m args below meth c A H locs ls F hw (lv_sub hl [1, 2, 3, 0] rfl)
set_option maxRecDepth 100000 in
set_option maxHeartbeats 4000000 in
theorem t_G_ofWords_J172 (l : Launch) (Z : XZ) (u0 : PS) {Kv : Option Value → PS → Prop} {R : Int32 → PS → Prop} {E196 : PS → Prop} (x0 : Nat) (x2 : Int32) (x3 : Int32) (x4 : Int32) (u : PS) (hR : ∀ (y4 : Int32) (v : PS), R y4 v → XN l Z i_G_ofWords u0 Kv v 65 [(0, .ref x0), (2, .int x2), (3, .int x3), (4, .int y4)] []) (hE196 : ∀ (v : PS), E196 v → XN l Z i_G_ofWords u0 Kv v 196 [(0, .ref x0), (2, .int x2)] []) (k : (p_G_ofWords_J172 R E196 x0 x2 x3 x4 u)) : XN l Z i_G_ofWords u0 Kv u 172 [(0, .ref x0), (2, .int x2), (3, .int x3), (4, .int x4)] [] := by
  unfold p_G_ofWords_J172 at k
  obtain ⟨z_66, h1, k⟩ := k
  obtain ⟨z_67, h2, k⟩ := k
  obtain ⟨h4, k⟩ := k
  obtain ⟨_, u_68, ⟨r_69, rfl, k⟩, hM3⟩ := c_G_folded l Z x0 z_67 (2 : Int32) (6 : Int32) u _ k
  obtain ⟨u_70, h5, k⟩ := k
  obtain ⟨rv, v9, hK, hle_u_70, w9⟩ := t_G_ofWords_J190 l Z u0 x0 x2 x3 x4 u_70 hR hE196 k
  have hle_u_68 : x_le u_68 v9 := (h5.le).tr hle_u_70
  have hle_u : x_le u v9 := (hM3.1).tr hle_u_68
  refine ⟨rv, v9, hK, hle_u, ?_⟩
  intro p e s m args below meth c A H locs ls F hw hl
  obtain ⟨⟨hx, hb, hml, hown, hts⟩, hr, hlocks, hmn⟩ := id F
  refine lv_aload_n hx hb d_G_ofWords_172 rfl (lv_at hl 0 rfl) ?_
  refine xr_get hx hb hts (xmu uws_G) hown hw h1 rfl (by decide) (hts _ (xm w_129)) (fun _ h9 => h9) d_G_ofWords_173 ?_
  refine lv_iload hx hb d_G_ofWords_176 (lv_at hl 3 rfl) ?_
  refine lv_aload_n hx hb d_G_ofWords_178 rfl (lv_at hl 0 rfl) ?_
  refine lv_aload_n hx hb d_G_ofWords_179 rfl (lv_at hl 0 rfl) ?_
  refine xr_get hx hb hts (xmu uws_G) hown hw h2 rfl (by decide) (hts _ (xm w_127)) (fun _ h9 => h9) d_G_ofWords_180 ?_
  refine lv_iconst (v := 2) hx hb d_G_ofWords_183 (by decide) ?_
  refine lv_bipush (v := 6) hx hb d_G_ofWords_184 (by decide) ?_
  refine xr_cV (As := [.ref z_67, .int 2, .int 6]) (rest := [.int x4, .ref z_66]) ⟨hx, hb, hml, hown, hts⟩ hw hM3 hle_u_68 (fun _ _ => ⟨callB_of 3 hts (xgood w_333) rfl rfl rfl (hts _ (xm w_6)) (hts _ (xm w_330)) ⟨by decide, by decide, by decide +kernel⟩ ⟨Nat.le_of_ble_eq_true rfl, Nat.le_of_ble_eq_true rfl⟩, (hts _ (xm w_332)), (hts _ (xm wp_7))⟩) (qc := (R_G, F_G, 10)) rfl rfl h4 rfl hl.1 rfl (Nat.le_of_ble_eq_true rfl) d_G_ofWords_186 (fun H locs hw => ?_)
  refine W.eq (g2 := F0 m 189 ls [.int r_69, .int x4, .ref z_66]) rfl ?_
  refine xr_iast hx hb hw h5 d_G_ofWords_189 (fun H locs hw => ?_)
  exact w9 p e s m args below meth c A H locs ls F hw (lv_sub hl [0, 1, 2, 3] rfl)
set_option maxRecDepth 100000 in
set_option maxHeartbeats 4000000 in
theorem t_G_ofWords_J105 (l : Launch) (Z : XZ) (u0 : PS) {Kv : Option Value → PS → Prop} {R : Int32 → PS → Prop} {E196 : PS → Prop} (x0 : Nat) (x2 : Int32) (x3 : Int32) (x4 : Int32) (x5 : Int32) (u : PS) (hR : ∀ (y4 : Int32) (v : PS), R y4 v → XN l Z i_G_ofWords u0 Kv v 65 [(0, .ref x0), (2, .int x2), (3, .int x3), (4, .int y4)] []) (hE196 : ∀ (v : PS), E196 v → XN l Z i_G_ofWords u0 Kv v 196 [(0, .ref x0), (2, .int x2)] []) (k : (p_G_ofWords_J105 R E196 x0 x2 x3 x4 x5 u)) : XN l Z i_G_ofWords u0 Kv u 105 [(0, .ref x0), (2, .int x2), (3, .int x3), (4, .int x4), (5, .int x5)] [] := by
  unfold p_G_ofWords_J105 at k
  by_cases hc1 : x4 ≤ x5
  · have k := k.1 hc1
    obtain ⟨n2, k⟩ := k
    have hx4 : ∀ (v3 : PS), (p_G_ofWords_J172 R E196 x0 x2 x3 x4 v3) → XN l Z i_G_ofWords u0 Kv v3 172 [(0, .ref x0), (2, .int x2), (3, .int x3), (4, .int x4)] [] := by
      intro v3 k
      obtain ⟨rv, v9, hK, hle_v3, w9⟩ := t_G_ofWords_J172 l Z u0 x0 x2 x3 x4 v3 hR hE196 k
      refine ⟨rv, v9, hK, hle_v3, ?_⟩
      intro p e s m args below meth c A H locs ls F hw hl
      obtain ⟨⟨hx, hb, hml, hown, hts⟩, hr, hlocks, hmn⟩ := id F
      exact w9 p e s m args below meth c A H locs ls F hw (lv_sub hl [0, 1, 2, 3] rfl)
    obtain ⟨rv, v9, hK, hle_u, w9⟩ := t_G_ofWords_L132 l Z u0 x0 x2 x3 x4 hx4 n2 (0 : Int32) u k
    refine ⟨rv, v9, hK, hle_u, ?_⟩
    intro p e s m args below meth c A H locs ls F hw hl
    obtain ⟨⟨hx, hb, hml, hown, hts⟩, hr, hlocks, hmn⟩ := id F
    refine lv_iload hx hb d_G_ofWords_105 (lv_at hl 4 rfl) ?_
    refine lv_iload hx hb d_G_ofWords_107 (lv_at hl 3 rfl) ?_
    refine lv_icmp_ge (tgt := 129) hx hb d_G_ofWords_109 (by decide) (fun _ => ?_) (fun c9 => absurd hc1 c9)
    refine lv_iconst (v := 0) hx hb d_G_ofWords_129 (by decide) ?_
    refine lv_istore (lv' := [(6, .int 0), (0, .ref x0), (2, .int x2), (3, .int x3), (4, .int x4), (5, .int x5)]) hx hb d_G_ofWords_130 hl (by decide) rfl (fun ls hl => ?_)
    exact w9 p e s m args below meth c A H locs ls F hw (lv_sub hl [1, 2, 3, 4, 0] rfl)
  · have k := k.2 hc1
    obtain ⟨z_71, h5, k⟩ := k
    obtain ⟨z_72, h6, k⟩ := k
    obtain ⟨z_73, h7, k⟩ := k
    obtain ⟨u_74, h8, k⟩ := k
    obtain ⟨rv, v9, hK, hle_u_74, w9⟩ := t_G_ofWords_J190 l Z u0 x0 x2 x3 x4 u_74 hR hE196 k
    have hle_u : x_le u v9 := (h8.le).tr hle_u_74
    refine ⟨rv, v9, hK, hle_u, ?_⟩
    intro p e s m args below meth c A H locs ls F hw hl
    obtain ⟨⟨hx, hb, hml, hown, hts⟩, hr, hlocks, hmn⟩ := id F
    refine lv_iload hx hb d_G_ofWords_105 (lv_at hl 4 rfl) ?_
    refine lv_iload hx hb d_G_ofWords_107 (lv_at hl 3 rfl) ?_
    refine lv_icmp_ge (tgt := 129) hx hb d_G_ofWords_109 (by decide) (fun c9 => absurd c9 hc1) (fun _ => ?_)
    refine lv_aload_n hx hb d_G_ofWords_112 rfl (lv_at hl 0 rfl) ?_
    refine xr_get hx hb hts (xmu uws_G) hown hw h5 rfl (by decide) (hts _ (xm w_129)) (fun _ h9 => h9) d_G_ofWords_113 ?_
    refine lv_iload hx hb d_G_ofWords_116 (lv_at hl 3 rfl) ?_
    refine lv_aload_n hx hb d_G_ofWords_118 rfl (lv_at hl 0 rfl) ?_
    refine xr_get hx hb hts (xmu uws_G) hown hw h6 rfl (by decide) (hts _ (xm w_129)) (fun _ h9 => h9) d_G_ofWords_119 ?_
    refine lv_iload hx hb d_G_ofWords_122 (lv_at hl 4 rfl) ?_
    refine xr_iald hx hb hw h7 d_G_ofWords_124 ?_
    refine xr_iast hx hb hw h8 d_G_ofWords_125 (fun H locs hw => ?_)
    refine lv_goto (tgt := 190) hx hb d_G_ofWords_126 (by decide) ?_
    exact w9 p e s m args below meth c A H locs ls F hw (lv_sub hl [0, 1, 2, 3] rfl)
set_option maxRecDepth 100000 in
set_option maxHeartbeats 4000000 in
theorem t_G_ofWords_L65 (l : Launch) (Z : XZ) (u0 : PS) {Kv : Option Value → PS → Prop} {E196 : PS → Prop} (x0 : Nat) (x2 : Int32) (x3 : Int32) (hE196 : ∀ (v : PS), E196 v → XN l Z i_G_ofWords u0 Kv v 196 [(0, .ref x0), (2, .int x2)] []) : ∀ (n : Nat) (x4 : Int32) (u : PS), p_G_ofWords_L65 x0 x2 x3 E196 n x4 u → XN l Z i_G_ofWords u0 Kv u 65 [(0, .ref x0), (2, .int x2), (3, .int x3), (4, .int x4)] [] := by
  intro n
  induction n with
  | zero => intro x4 u k; exact False.elim k
  | succ n ih =>
    intro x4 u k
    rw [p_G_ofWords_L65] at k
    by_cases hc1 : x3 ≤ x4
    · have k := k.1 hc1
      obtain ⟨rv, v9, hK, hle_u, w9⟩ := hE196 u k
      refine ⟨rv, v9, hK, hle_u, ?_⟩
      intro p e s m args below meth c A H locs ls F hw hl
      obtain ⟨⟨hx, hb, hml, hown, hts⟩, hr, hlocks, hmn⟩ := id F
      refine lv_iload hx hb d_G_ofWords_65 (lv_at hl 3 rfl) ?_
      refine lv_iload_n hx hb d_G_ofWords_67 rfl (lv_at hl 2 rfl) ?_
      refine lv_icmp_ge (tgt := 196) hx hb d_G_ofWords_68 (by decide) (fun _ => ?_) (fun c9 => absurd hc1 c9)
      exact w9 p e s m args below meth c A H locs ls F hw (lv_sub hl [0, 1] rfl)
    · have k := k.2 hc1
      obtain ⟨n2, k⟩ := k
      have hx5 : ∀ (y5_3 : Int32) (v4 : PS), (p_G_ofWords_J105 (p_G_ofWords_L65 x0 x2 x3 E196 n) E196 x0 x2 x3 x4 y5_3 v4) → XN l Z i_G_ofWords u0 Kv v4 105 [(0, .ref x0), (2, .int x2), (3, .int x3), (4, .int x4), (5, .int y5_3)] [] := by
        intro y5_3 v4 k
        obtain ⟨rv, v9, hK, hle_v4, w9⟩ := t_G_ofWords_J105 l Z u0 x0 x2 x3 x4 y5_3 v4 ih hE196 k
        refine ⟨rv, v9, hK, hle_v4, ?_⟩
        intro p e s m args below meth c A H locs ls F hw hl
        obtain ⟨⟨hx, hb, hml, hown, hts⟩, hr, hlocks, hmn⟩ := id F
        exact w9 p e s m args below meth c A H locs ls F hw (lv_sub hl [0, 1, 2, 3, 4] rfl)
      obtain ⟨rv, v9, hK, hle_u, w9⟩ := t_G_ofWords_L74 l Z u0 x0 x2 x3 x4 hx5 n2 (0 : Int32) u k
      refine ⟨rv, v9, hK, hle_u, ?_⟩
      intro p e s m args below meth c A H locs ls F hw hl
      obtain ⟨⟨hx, hb, hml, hown, hts⟩, hr, hlocks, hmn⟩ := id F
      refine lv_iload hx hb d_G_ofWords_65 (lv_at hl 3 rfl) ?_
      refine lv_iload_n hx hb d_G_ofWords_67 rfl (lv_at hl 2 rfl) ?_
      refine lv_icmp_ge (tgt := 196) hx hb d_G_ofWords_68 (by decide) (fun c9 => absurd c9 hc1) (fun _ => ?_)
      refine lv_iconst (v := 0) hx hb d_G_ofWords_71 (by decide) ?_
      refine lv_istore (lv' := [(5, .int 0), (0, .ref x0), (2, .int x2), (3, .int x3), (4, .int x4)]) hx hb d_G_ofWords_72 hl (by decide) rfl (fun ls hl => ?_)
      exact w9 p e s m args below meth c A H locs ls F hw (lv_sub hl [1, 2, 3, 4, 0] rfl)
set_option maxRecDepth 100000 in
set_option maxHeartbeats 4000000 in
theorem t_G_ofWords_J196 (l : Launch) (Z : XZ) (u0 : PS) {K : Int32 → PS → Prop} (x0 : Nat) (x2 : Int32) (u : PS) (k : (p_G_ofWords_J196 K x0 x2 u)) : XN l Z i_G_ofWords u0 (kI K) u 196 [(0, .ref x0), (2, .int x2)] [] := by
  unfold p_G_ofWords_J196 at k
  obtain ⟨z_75, h1, k⟩ := k
  obtain ⟨h3, k⟩ := k
  obtain ⟨_, u_76, ⟨r_77, rfl, k⟩, hM2⟩ := c_G_folded l Z x0 z_75 (6 : Int32) x2 u _ k
  have hle_u_76 : x_le u_76 u_76 := x_le.rf u_76
  have hle_u : x_le u u_76 := (hM2.1).tr hle_u_76
  refine ⟨some (.int r_77), u_76, ⟨r_77, rfl, k⟩, hle_u, ?_⟩
  intro p e s m args below meth c A H locs ls F hw hl
  obtain ⟨⟨hx, hb, hml, hown, hts⟩, hr, hlocks, hmn⟩ := id F
  refine lv_aload_n hx hb d_G_ofWords_196 rfl (lv_at hl 0 rfl) ?_
  refine lv_aload_n hx hb d_G_ofWords_197 rfl (lv_at hl 0 rfl) ?_
  refine xr_get hx hb hts (xmu uws_G) hown hw h1 rfl (by decide) (hts _ (xm w_129)) (fun _ h9 => h9) d_G_ofWords_198 ?_
  refine lv_bipush (v := 6) hx hb d_G_ofWords_201 (by decide) ?_
  refine lv_iload_n hx hb d_G_ofWords_203 rfl (lv_at hl 1 rfl) ?_
  refine xr_cV (As := [.ref z_75, .int 6, .int x2]) (rest := []) ⟨hx, hb, hml, hown, hts⟩ hw hM2 hle_u_76 (fun _ _ => ⟨callB_of 3 hts (xgood w_333) rfl rfl rfl (hts _ (xm w_6)) (hts _ (xm w_330)) ⟨by decide, by decide, by decide +kernel⟩ ⟨Nat.le_of_ble_eq_true rfl, Nat.le_of_ble_eq_true rfl⟩, (hts _ (xm w_332)), (hts _ (xm wp_7))⟩) (qc := (R_G, F_G, 10)) rfl rfl h3 rfl hl.1 rfl (Nat.le_of_ble_eq_true rfl) d_G_ofWords_204 (fun H locs hw => ?_)
  refine W.eq (g2 := F0 m 207 ls [.int r_77]) rfl ?_
  exact xr_iret F rfl hw d_G_ofWords_207
set_option maxRecDepth 100000 in
set_option maxHeartbeats 4000000 in
theorem t_G_ofWords_J55 (l : Launch) (Z : XZ) (u0 : PS) {K : Int32 → PS → Prop} (x0 : Nat) (x2 : Int32) (u : PS) (k : (p_G_ofWords_J55 K x0 x2 u)) : XN l Z i_G_ofWords u0 (kI K) u 55 [(0, .ref x0), (2, .int x2)] [] := by
  unfold p_G_ofWords_J55 at k
  obtain ⟨y1, ey1⟩ : ∃ y9 : Int32, y9 = ((1 : Int32) <<< ((x2 - (6 : Int32)) &&& 31)) := ⟨_, rfl⟩
  have k := k y1 ey1
  obtain ⟨n2, k⟩ := k
  have hx4 : ∀ (v3 : PS), (p_G_ofWords_J196 K x0 x2 v3) → XN l Z i_G_ofWords u0 (kI K) v3 196 [(0, .ref x0), (2, .int x2)] [] := by
    intro v3 k
    obtain ⟨rv, v9, hK, hle_v3, w9⟩ := t_G_ofWords_J196 l Z u0 x0 x2 v3 k
    refine ⟨rv, v9, hK, hle_v3, ?_⟩
    intro p e s m args below meth c A H locs ls F hw hl
    obtain ⟨⟨hx, hb, hml, hown, hts⟩, hr, hlocks, hmn⟩ := id F
    exact w9 p e s m args below meth c A H locs ls F hw (lv_sub hl [0, 1] rfl)
  obtain ⟨rv, v9, hK, hle_u, w9⟩ := t_G_ofWords_L65 l Z u0 x0 x2 y1 hx4 n2 (0 : Int32) u k
  refine ⟨rv, v9, hK, hle_u, ?_⟩
  intro p e s m args below meth c A H locs ls F hw hl
  obtain ⟨⟨hx, hb, hml, hown, hts⟩, hr, hlocks, hmn⟩ := id F
  refine lv_iconst (v := 1) hx hb d_G_ofWords_55 (by decide) ?_
  refine lv_iload_n hx hb d_G_ofWords_56 rfl (lv_at hl 1 rfl) ?_
  refine lv_bipush (v := 6) hx hb d_G_ofWords_57 (by decide) ?_
  refine lv_isub hx hb d_G_ofWords_59 ?_
  refine lv_ishl hx hb d_G_ofWords_60 ?_
  refine lv_istore_n (lv' := [(3, .int y1), (0, .ref x0), (2, .int x2)]) hx hb d_G_ofWords_61 rfl hl (by decide) (by subst ey1; rfl) (fun ls hl => ?_)
  refine lv_iconst (v := 0) hx hb d_G_ofWords_62 (by decide) ?_
  refine lv_istore (lv' := [(4, .int 0), (3, .int y1), (0, .ref x0), (2, .int x2)]) hx hb d_G_ofWords_63 hl (by decide) rfl (fun ls hl => ?_)
  exact w9 p e s m args below meth c A H locs ls F hw (lv_sub hl [2, 3, 1, 0] rfl)
set_option maxRecDepth 100000 in
set_option maxHeartbeats 4000000 in
theorem t_G_ofWords_J29 (l : Launch) (Z : XZ) (u0 : PS) {K : Int32 → PS → Prop} (x0 : Nat) (x2 : Int32) (u : PS) (k : (p_G_ofWords_J29 K x0 x2 u)) : XN l Z i_G_ofWords u0 (kI K) u 29 [(0, .ref x0), (2, .int x2)] [] := by
  unfold p_G_ofWords_J29 at k
  obtain ⟨h2, k⟩ := k
  obtain ⟨_, u_53, ⟨rfl, k⟩, hM1⟩ := c_G_arrange l Z x0 x2 u _ k
  obtain ⟨n3, k⟩ := k
  have hx5 : ∀ (v4 : PS), (p_G_ofWords_J55 K x0 x2 v4) → XN l Z i_G_ofWords u0 (kI K) v4 55 [(0, .ref x0), (2, .int x2)] [] := by
    intro v4 k
    obtain ⟨rv, v9, hK, hle_v4, w9⟩ := t_G_ofWords_J55 l Z u0 x0 x2 v4 k
    refine ⟨rv, v9, hK, hle_v4, ?_⟩
    intro p e s m args below meth c A H locs ls F hw hl
    obtain ⟨⟨hx, hb, hml, hown, hts⟩, hr, hlocks, hmn⟩ := id F
    exact w9 p e s m args below meth c A H locs ls F hw (lv_sub hl [0, 1] rfl)
  obtain ⟨rv, v9, hK, hle_u_53, w9⟩ := t_G_ofWords_L36 l Z u0 x0 x2 hx5 n3 (0 : Int32) u_53 k
  have hle_u : x_le u v9 := (hM1.1).tr hle_u_53
  refine ⟨rv, v9, hK, hle_u, ?_⟩
  intro p e s m args below meth c A H locs ls F hw hl
  obtain ⟨⟨hx, hb, hml, hown, hts⟩, hr, hlocks, hmn⟩ := id F
  refine lv_aload_n hx hb d_G_ofWords_29 rfl (lv_at hl 0 rfl) ?_
  refine lv_iload_n hx hb d_G_ofWords_30 rfl (lv_at hl 1 rfl) ?_
  refine xr_cV (As := [.int x2]) (rest := []) ⟨hx, hb, hml, hown, hts⟩ hw hM1 hle_u_53 (fun _ _ => ⟨callB_of 1 hts (xgood w_345) rfl rfl rfl (hts _ (xm w_6)) (hts _ (xm w_342)) ⟨by decide, by decide, by decide +kernel⟩ ⟨Nat.le_of_ble_eq_true rfl, Nat.le_of_ble_eq_true rfl⟩, (hts _ (xm w_344)), (hts _ (xm wp_9))⟩) (qc := (R_G, F_G, 10)) rfl rfl h2 rfl hl.1 rfl (Nat.le_of_ble_eq_true rfl) d_G_ofWords_31 (fun H locs hw => ?_)
  refine W.eq (g2 := F0 m 34 ls []) rfl ?_
  refine lv_iconst (v := 0) hx hb d_G_ofWords_34 (by decide) ?_
  refine lv_istore_n (lv' := [(3, .int 0), (0, .ref x0), (2, .int x2)]) hx hb d_G_ofWords_35 rfl hl (by decide) rfl (fun ls hl => ?_)
  exact w9 p e s m args below meth c A H locs ls F hw (lv_sub hl [1, 2, 0] rfl)
set_option maxRecDepth 100000 in
set_option maxHeartbeats 4000000 in
theorem c_G_ofWords (l : Launch) (Z : XZ) (x0 : Nat) (x1 : Int32) (x2 : Int32) (u : PS) (K : Int32 → PS → Prop) (k : p_G_ofWords x0 x1 x2 u K) : ∃ (rv : Option Value) (u1 : PS), (kI K) rv u1 ∧ XMet l Z i_G_ofWords [.ref x0, .int x1, .int x2] u rv u1 := by
  refine x_met (by decide) rfl (Nat.le_of_ble_eq_true rfl) ?_
  show XN l Z i_G_ofWords u (kI K) u 0 [(0, .ref x0), (1, .int x1), (2, .int x2)] []
  unfold p_G_ofWords at k
  obtain ⟨n1, k⟩ := k
  have hx3 : ∀ (v2 : PS), (p_G_ofWords_J29 K x0 x2 v2) → XN l Z i_G_ofWords u (kI K) v2 29 [(0, .ref x0), (2, .int x2)] [] := by
    intro v2 k
    obtain ⟨rv, v9, hK, hle_v2, w9⟩ := t_G_ofWords_J29 l Z u x0 x2 v2 k
    refine ⟨rv, v9, hK, hle_v2, ?_⟩
    intro p e s m args below meth c A H locs ls F hw hl
    obtain ⟨⟨hx, hb, hml, hown, hts⟩, hr, hlocks, hmn⟩ := id F
    exact w9 p e s m args below meth c A H locs ls F hw (lv_sub hl [0, 1] rfl)
  obtain ⟨rv, v9, hK, hle_u, w9⟩ := t_G_ofWords_L2 l Z u x0 x1 x2 hx3 n1 (0 : Int32) u k
  refine ⟨rv, v9, hK, hle_u, ?_⟩
  intro p e s m args below meth c A H locs ls F hw hl
  obtain ⟨⟨hx, hb, hml, hown, hts⟩, hr, hlocks, hmn⟩ := id F
  refine lv_iconst (v := 0) hx hb d_G_ofWords_0 (by decide) ?_
  refine lv_istore_n (lv' := [(3, .int 0), (0, .ref x0), (1, .int x1), (2, .int x2)]) hx hb d_G_ofWords_1 rfl hl (by decide) rfl (fun ls hl => ?_)
  exact w9 p e s m args below meth c A H locs ls F hw (lv_sub hl [1, 2, 3, 0] rfl)
set_option maxRecDepth 100000 in
set_option maxHeartbeats 4000000 in
theorem t_G_rootOf_J122 (l : Launch) (Z : XZ) (u0 : PS) {Kv : Option Value → PS → Prop} {R : Int32 → Int32 → PS → Prop} {E128 : PS → Prop} (x0 : Nat) (x1 : Int32) (x2 : Nat) (x3 : Int32) (x5 : Int32) (x6 : Int32) (x7 : Int32) (u : PS) (hR : ∀ (y6 : Int32) (y7 : Int32) (v : PS), R y6 y7 v → XN l Z i_G_rootOf u0 Kv v 91 [(0, .ref x0), (1, .int x1), (2, .ref x2), (3, .int x3), (5, .int x5), (6, .int y6), (7, .int y7)] []) (hE128 : ∀ (v : PS), E128 v → XN l Z i_G_rootOf u0 Kv v 128 [(0, .ref x0), (1, .int x1), (5, .int x5)] []) (k : (p_G_rootOf_J122 R E128 x0 x1 x2 x3 x5 x6 x7 u)) : XN l Z i_G_rootOf u0 Kv u 122 [(0, .ref x0), (1, .int x1), (2, .ref x2), (3, .int x3), (5, .int x5), (6, .int x6), (7, .int x7)] [] := by
  unfold p_G_rootOf_J122 at k
  obtain ⟨y1, ey1⟩ : ∃ y9 : Int32, y9 = x7 + (-1) := ⟨_, rfl⟩
  have k := k y1 ey1
  obtain ⟨rv, v9, hK, hle_u, w9⟩ := hR x6 y1 u k
  refine ⟨rv, v9, hK, hle_u, ?_⟩
  intro p e s m args below meth c A H locs ls F hw hl
  obtain ⟨⟨hx, hb, hml, hown, hts⟩, hr, hlocks, hmn⟩ := id F
  refine lv_iinc (v := y1) (lv' := [(7, .int y1), (0, .ref x0), (1, .int x1), (2, .ref x2), (3, .int x3), (5, .int x5), (6, .int x6)]) hx hb d_G_rootOf_122 hl (k := 6) rfl (by subst ey1; rfl) (by decide) rfl (fun ls hl => ?_)
  refine lv_goto (tgt := 91) hx hb d_G_rootOf_125 (by decide) ?_
  exact w9 p e s m args below meth c A H locs ls F hw (lv_sub hl [1, 2, 3, 4, 5, 6, 0] rfl)
set_option maxRecDepth 100000 in
set_option maxHeartbeats 4000000 in
theorem t_G_rootOf_L91 (l : Launch) (Z : XZ) (u0 : PS) {Kv : Option Value → PS → Prop} {E128 : PS → Prop} (x0 : Nat) (x1 : Int32) (x2 : Nat) (x3 : Int32) (x5 : Int32) (hE128 : ∀ (v : PS), E128 v → XN l Z i_G_rootOf u0 Kv v 128 [(0, .ref x0), (1, .int x1), (5, .int x5)] []) : ∀ (n : Nat) (x6 : Int32) (x7 : Int32) (u : PS), p_G_rootOf_L91 x0 x1 x2 x3 x5 E128 n x6 x7 u → XN l Z i_G_rootOf u0 Kv u 91 [(0, .ref x0), (1, .int x1), (2, .ref x2), (3, .int x3), (5, .int x5), (6, .int x6), (7, .int x7)] [] := by
  intro n
  induction n with
  | zero => intro x6 x7 u k; exact False.elim k
  | succ n ih =>
    intro x6 x7 u k
    rw [p_G_rootOf_L91] at k
    by_cases hc1 : x7 < 0
    · have k := k.1 hc1
      obtain ⟨rv, v9, hK, hle_u, w9⟩ := hE128 u k
      refine ⟨rv, v9, hK, hle_u, ?_⟩
      intro p e s m args below meth c A H locs ls F hw hl
      obtain ⟨⟨hx, hb, hml, hown, hts⟩, hr, hlocks, hmn⟩ := id F
      refine lv_iload hx hb d_G_rootOf_91 (lv_at hl 6 rfl) ?_
      refine lv_if_lt (tgt := 128) hx hb d_G_rootOf_93 (by decide) (fun _ => ?_) (fun c9 => absurd hc1 c9)
      exact w9 p e s m args below meth c A H locs ls F hw (lv_sub hl [0, 1, 4] rfl)
    · have k := k.2 hc1
      obtain ⟨z_49, h2, k⟩ := k
      by_cases hc3 : ((x3 >>> (z_49 &&& 31)) &&& (1 : Int32)) = 1
      · have k := k.2 hc3
        obtain ⟨z_50, h4, k⟩ := k
        obtain ⟨z_51, h5, k⟩ := k
        obtain ⟨u_52, h6, k⟩ := k
        obtain ⟨y7, ey7⟩ : ∃ y9 : Int32, y9 = x6 + 1 := ⟨_, rfl⟩
        have k := k y7 ey7
        obtain ⟨rv, v9, hK, hle_u_52, w9⟩ := t_G_rootOf_J122 l Z u0 x0 x1 x2 x3 x5 y7 x7 u_52 ih hE128 k
        have hle_u : x_le u v9 := (h6.le).tr hle_u_52
        refine ⟨rv, v9, hK, hle_u, ?_⟩
        intro p e s m args below meth c A H locs ls F hw hl
        obtain ⟨⟨hx, hb, hml, hown, hts⟩, hr, hlocks, hmn⟩ := id F
        refine lv_iload hx hb d_G_rootOf_91 (lv_at hl 6 rfl) ?_
        refine lv_if_lt (tgt := 128) hx hb d_G_rootOf_93 (by decide) (fun c9 => absurd c9 hc1) (fun _ => ?_)
        refine lv_iload_n hx hb d_G_rootOf_96 rfl (lv_at hl 3 rfl) ?_
        refine lv_aload_n hx hb d_G_rootOf_97 rfl (lv_at hl 2 rfl) ?_
        refine lv_iload hx hb d_G_rootOf_98 (lv_at hl 6 rfl) ?_
        refine xr_iald hx hb hw h2 d_G_rootOf_100 ?_
        refine lv_ishr hx hb d_G_rootOf_101 ?_
        refine lv_iconst (v := 1) hx hb d_G_rootOf_102 (by decide) ?_
        refine lv_iand hx hb d_G_rootOf_103 ?_
        refine lv_iconst (v := 1) hx hb d_G_rootOf_104 (by decide) ?_
        refine lv_icmp_ne (tgt := 122) hx hb d_G_rootOf_105 (by decide) (fun c9 => absurd hc3 c9) (fun _ => ?_)
        refine lv_aload_n hx hb d_G_rootOf_108 rfl (lv_at hl 0 rfl) ?_
        refine xr_get hx hb hts (xmu uws_G) hown hw h4 rfl (by decide) (hts _ (xm w_125)) (fun _ h9 => h9) d_G_rootOf_109 ?_
        refine lv_iload hx hb d_G_rootOf_112 (lv_at hl 5 rfl) ?_
        refine lv_aload_n hx hb d_G_rootOf_114 rfl (lv_at hl 2 rfl) ?_
        refine lv_iload hx hb d_G_rootOf_115 (lv_at hl 6 rfl) ?_
        refine xr_iald hx hb hw h5 d_G_rootOf_117 ?_
        refine xr_iast hx hb hw h6 d_G_rootOf_118 (fun H locs hw => ?_)
        refine lv_iinc (v := y7) (lv' := [(6, .int y7), (0, .ref x0), (1, .int x1), (2, .ref x2), (3, .int x3), (5, .int x5), (7, .int x7)]) hx hb d_G_rootOf_119 hl (k := 5) rfl (by subst ey7; rfl) (by decide) rfl (fun ls hl => ?_)
        exact w9 p e s m args below meth c A H locs ls F hw (lv_sub hl [1, 2, 3, 4, 5, 0, 6] rfl)
      · have k := k.1 hc3
        obtain ⟨rv, v9, hK, hle_u, w9⟩ := t_G_rootOf_J122 l Z u0 x0 x1 x2 x3 x5 x6 x7 u ih hE128 k
        refine ⟨rv, v9, hK, hle_u, ?_⟩
        intro p e s m args below meth c A H locs ls F hw hl
        obtain ⟨⟨hx, hb, hml, hown, hts⟩, hr, hlocks, hmn⟩ := id F
        refine lv_iload hx hb d_G_rootOf_91 (lv_at hl 6 rfl) ?_
        refine lv_if_lt (tgt := 128) hx hb d_G_rootOf_93 (by decide) (fun c9 => absurd c9 hc1) (fun _ => ?_)
        refine lv_iload_n hx hb d_G_rootOf_96 rfl (lv_at hl 3 rfl) ?_
        refine lv_aload_n hx hb d_G_rootOf_97 rfl (lv_at hl 2 rfl) ?_
        refine lv_iload hx hb d_G_rootOf_98 (lv_at hl 6 rfl) ?_
        refine xr_iald hx hb hw h2 d_G_rootOf_100 ?_
        refine lv_ishr hx hb d_G_rootOf_101 ?_
        refine lv_iconst (v := 1) hx hb d_G_rootOf_102 (by decide) ?_
        refine lv_iand hx hb d_G_rootOf_103 ?_
        refine lv_iconst (v := 1) hx hb d_G_rootOf_104 (by decide) ?_
        refine lv_icmp_ne (tgt := 122) hx hb d_G_rootOf_105 (by decide) (fun _ => ?_) (fun c9 => absurd c9 hc3)
        exact w9 p e s m args below meth c A H locs ls F hw (lv_sub hl [0, 1, 2, 3, 4, 5, 6] rfl)
set_option maxRecDepth 100000 in
set_option maxHeartbeats 4000000 in
theorem t_G_rootOf_J128 (l : Launch) (Z : XZ) (u0 : PS) {K : Int32 → PS → Prop} (x0 : Nat) (x1 : Int32) (x5 : Int32) (u : PS) (k : (p_G_rootOf_J128 K x0 x1 x5 u)) : XN l Z i_G_rootOf u0 (kI K) u 128 [(0, .ref x0), (1, .int x1), (5, .int x5)] [] := by
  unfold p_G_rootOf_J128 at k
  by_cases hc1 : 5 < x5
  · have k := k.1 hc1
    obtain ⟨h3, k⟩ := k
    obtain ⟨_, u_53, ⟨r_54, rfl, k⟩, hM2⟩ := c_G_ofWords l Z x0 x1 x5 u _ k
    have hle_u_53 : x_le u_53 u_53 := x_le.rf u_53
    have hle_u : x_le u u_53 := (hM2.1).tr hle_u_53
    refine ⟨some (.int r_54), u_53, ⟨r_54, rfl, k⟩, hle_u, ?_⟩
    intro p e s m args below meth c A H locs ls F hw hl
    obtain ⟨⟨hx, hb, hml, hown, hts⟩, hr, hlocks, hmn⟩ := id F
    refine lv_iload hx hb d_G_rootOf_128 (lv_at hl 2 rfl) ?_
    refine lv_iconst (v := 5) hx hb d_G_rootOf_130 (by decide) ?_
    refine lv_icmp_gt (tgt := 144) hx hb d_G_rootOf_131 (by decide) (fun _ => ?_) (fun c9 => absurd hc1 c9)
    refine lv_aload_n hx hb d_G_rootOf_144 rfl (lv_at hl 0 rfl) ?_
    refine lv_iload_n hx hb d_G_rootOf_145 rfl (lv_at hl 1 rfl) ?_
    refine lv_iload hx hb d_G_rootOf_146 (lv_at hl 2 rfl) ?_
    refine xr_cV (As := [.int x1, .int x5]) (rest := []) ⟨hx, hb, hml, hown, hts⟩ hw hM2 hle_u_53 (fun _ _ => ⟨callB_of 2 hts (xgood w_337) rfl rfl rfl (hts _ (xm w_6)) (hts _ (xm w_334)) ⟨by decide, by decide, by decide +kernel⟩ ⟨Nat.le_of_ble_eq_true rfl, Nat.le_of_ble_eq_true rfl⟩, (hts _ (xm w_336)), (hts _ (xm wp_8))⟩) (qc := (R_G, F_G, 10)) rfl rfl h3 rfl hl.1 rfl (Nat.le_of_ble_eq_true rfl) d_G_rootOf_148 (fun H locs hw => ?_)
    refine W.eq (g2 := F0 m 151 ls [.int r_54]) rfl ?_
    exact xr_iret F rfl hw d_G_rootOf_151
  · have k := k.2 hc1
    obtain ⟨h5, k⟩ := k
    obtain ⟨_, u_55, ⟨r_56, rfl, k⟩, hM4⟩ := c_G_ofBits l Z x0 x1 x5 u _ k
    have hle_u_55 : x_le u_55 u_55 := x_le.rf u_55
    have hle_u : x_le u u_55 := (hM4.1).tr hle_u_55
    refine ⟨some (.int r_56), u_55, ⟨r_56, rfl, k⟩, hle_u, ?_⟩
    intro p e s m args below meth c A H locs ls F hw hl
    obtain ⟨⟨hx, hb, hml, hown, hts⟩, hr, hlocks, hmn⟩ := id F
    refine lv_iload hx hb d_G_rootOf_128 (lv_at hl 2 rfl) ?_
    refine lv_iconst (v := 5) hx hb d_G_rootOf_130 (by decide) ?_
    refine lv_icmp_gt (tgt := 144) hx hb d_G_rootOf_131 (by decide) (fun c9 => absurd c9 hc1) (fun _ => ?_)
    refine lv_aload_n hx hb d_G_rootOf_134 rfl (lv_at hl 0 rfl) ?_
    refine lv_iload_n hx hb d_G_rootOf_135 rfl (lv_at hl 1 rfl) ?_
    refine lv_iload hx hb d_G_rootOf_136 (lv_at hl 2 rfl) ?_
    refine xr_cV (As := [.int x1, .int x5]) (rest := []) ⟨hx, hb, hml, hown, hts⟩ hw hM4 hle_u_55 (fun _ _ => ⟨callB_of 2 hts (xgood w_329) rfl rfl rfl (hts _ (xm w_6)) (hts _ (xm w_326)) ⟨by decide, by decide, by decide +kernel⟩ ⟨Nat.le_of_ble_eq_true rfl, Nat.le_of_ble_eq_true rfl⟩, (hts _ (xm w_328)), (hts _ (xm wp_6))⟩) (qc := (R_G, F_G, 10)) rfl rfl h5 rfl hl.1 rfl (Nat.le_of_ble_eq_true rfl) d_G_rootOf_138 (fun H locs hw => ?_)
    refine W.eq (g2 := F0 m 141 ls [.int r_56]) rfl ?_
    refine lv_goto (tgt := 151) hx hb d_G_rootOf_141 (by decide) ?_
    exact xr_iret F rfl hw d_G_rootOf_151
set_option maxRecDepth 100000 in
set_option maxHeartbeats 4000000 in
theorem c_G_rootOf (l : Launch) (Z : XZ) (x0 : Nat) (x1 : Int32) (x2 : Nat) (u : PS) (K : Int32 → PS → Prop) (k : p_G_rootOf x0 x1 x2 u K) : ∃ (rv : Option Value) (u1 : PS), (kI K) rv u1 ∧ XMet l Z i_G_rootOf [.ref x0, .int x1, .ref x2] u rv u1 := by
  refine x_met (by decide) rfl (Nat.le_of_ble_eq_true rfl) ?_
  show XN l Z i_G_rootOf u (kI K) u 0 [(0, .ref x0), (1, .int x1), (2, .ref x2)] []
  unfold p_G_rootOf at k
  obtain ⟨z_31, h1, k⟩ := k
  obtain ⟨h3, k⟩ := k
  obtain ⟨_, u_32, ⟨r_33, rfl, k⟩, hM2⟩ := c_F_usedInputs l Z z_31 x1 u _ k
  obtain ⟨z_34, h4, k⟩ := k
  obtain ⟨h6, k⟩ := k
  obtain ⟨_, u_35, ⟨r_36, rfl, k⟩, hM5⟩ := c_F_bit l Z z_34 x1 (0 : Int32) u_32 _ k
  by_cases hc7 : r_33 = 0
  · have k := k.2 hc7
    have hle_u_35 : x_le u_35 u_35 := x_le.rf u_35
    have hle_u_32 : x_le u_32 u_35 := (hM5.1).tr hle_u_35
    have hle_u : x_le u u_35 := (hM2.1).tr hle_u_32
    refine ⟨some (.int r_36), u_35, ⟨r_36, rfl, k⟩, hle_u, ?_⟩
    intro p e s m args below meth c A H locs ls F hw hl
    obtain ⟨⟨hx, hb, hml, hown, hts⟩, hr, hlocks, hmn⟩ := id F
    refine lv_aload_n hx hb d_G_rootOf_0 rfl (lv_at hl 0 rfl) ?_
    refine xr_get hx hb hts (xmu uws_G) hown hw h1 rfl (by decide) (hts _ (xm w_123)) (fun _ h9 => h9) d_G_rootOf_1 ?_
    refine lv_iload_n hx hb d_G_rootOf_4 rfl (lv_at hl 1 rfl) ?_
    refine xr_cV (As := [.int x1]) (rest := []) ⟨hx, hb, hml, hown, hts⟩ hw hM2 hle_u_32 (fun _ _ => ⟨callB_of 1 hts (xgood w_255) rfl rfl rfl (hts _ (xm w_2)) (hts _ (xm w_252)) ⟨by decide, by decide, by decide +kernel⟩ ⟨Nat.le_of_ble_eq_true rfl, Nat.le_of_ble_eq_true rfl⟩, (hts _ (xm w_253)), (hts _ (xm w_254))⟩) (qc := (R_F, F_F, 5)) rfl rfl h3 rfl hl.1 rfl (Nat.le_of_ble_eq_true rfl) d_G_rootOf_5 (fun H locs hw => ?_)
    refine W.eq (g2 := F0 m 8 ls [.int r_33]) rfl ?_
    refine lv_istore_n (lv' := [(3, .int r_33), (0, .ref x0), (1, .int x1), (2, .ref x2)]) hx hb d_G_rootOf_8 rfl hl (by decide) rfl (fun ls hl => ?_)
    refine lv_aload_n hx hb d_G_rootOf_9 rfl (lv_at hl 1 rfl) ?_
    refine xr_get hx hb hts (xmu uws_G) hown hw h4 rfl (by decide) (hts _ (xm w_123)) (fun _ h9 => h9) d_G_rootOf_10 ?_
    refine lv_iload_n hx hb d_G_rootOf_13 rfl (lv_at hl 2 rfl) ?_
    refine lv_iconst (v := 0) hx hb d_G_rootOf_14 (by decide) ?_
    refine xr_cV (As := [.int x1, .int 0]) (rest := []) ⟨hx, hb, hml, hown, hts⟩ hw hM5 hle_u_35 (fun _ _ => ⟨callB_of 2 hts (xgood w_284) rfl rfl rfl (hts _ (xm w_2)) (hts _ (xm w_281)) ⟨by decide, by decide, by decide +kernel⟩ ⟨Nat.le_of_ble_eq_true rfl, Nat.le_of_ble_eq_true rfl⟩, (hts _ (xm w_282)), (hts _ (xm w_283))⟩) (qc := (R_F, F_F, 5)) rfl rfl h6 rfl hl.1 rfl (Nat.le_of_ble_eq_true rfl) d_G_rootOf_15 (fun H locs hw => ?_)
    refine W.eq (g2 := F0 m 18 ls [.int r_36]) rfl ?_
    refine lv_istore (lv' := [(4, .int r_36), (3, .int r_33), (0, .ref x0), (1, .int x1), (2, .ref x2)]) hx hb d_G_rootOf_18 hl (by decide) rfl (fun ls hl => ?_)
    refine lv_iload_n hx hb d_G_rootOf_20 rfl (lv_at hl 1 rfl) ?_
    refine lv_if_ne (tgt := 27) hx hb d_G_rootOf_21 (by decide) (fun c9 => absurd hc7 c9) (fun _ => ?_)
    refine lv_iload hx hb d_G_rootOf_24 (lv_at hl 0 rfl) ?_
    exact xr_iret F rfl hw d_G_rootOf_26
  · have k := k.1 hc7
    obtain ⟨_, u_37, ⟨r_38, rfl, k⟩, hM8⟩ := c_JI_bitCount l Z r_33 u_35 _ k
    obtain ⟨z_39, h9, k⟩ := k
    obtain ⟨z_40, h10, k⟩ := k
    obtain ⟨h12, k⟩ := k
    obtain ⟨_, u_41, ⟨r_42, rfl, k⟩, hM11⟩ := c_N_wholeSize l Z z_40 u_37 _ k
    obtain ⟨h14, k⟩ := k
    obtain ⟨_, u_43, ⟨rfl, k⟩, hM13⟩ := c_N_makeRoomFor l Z z_39 (((2 : Int32) + r_42) + (if (269 : Int32) < ((1 : Int32) <<< (r_38 &&& 31)) then (269 : Int32) else ((1 : Int32) <<< (r_38 &&& 31)))) u_41 _ k
    by_cases hc15 : r_38 = 1
    · have k := k.2 hc15
      obtain ⟨z_44, h16, k⟩ := k
      obtain ⟨_, u_45, ⟨r_46, rfl, k⟩, hM17⟩ := c_JI_numberOfTrailingZeros l Z r_33 u_43 _ k
      obtain ⟨h19, k⟩ := k
      obtain ⟨_, u_47, ⟨r_48, rfl, k⟩, hM18⟩ := c_N_nodeFor l Z z_44 r_46 r_36 ((1 : Int32) - r_36) u_45 _ k
      have hle_u_47 : x_le u_47 u_47 := x_le.rf u_47
      have hle_u_45 : x_le u_45 u_47 := (hM18.1).tr hle_u_47
      have hle_u_43 : x_le u_43 u_47 := (hM17.1).tr hle_u_45
      have hle_u_41 : x_le u_41 u_47 := (hM13.1).tr hle_u_43
      have hle_u_37 : x_le u_37 u_47 := (hM11.1).tr hle_u_41
      have hle_u_35 : x_le u_35 u_47 := (hM8.1).tr hle_u_37
      have hle_u_32 : x_le u_32 u_47 := (hM5.1).tr hle_u_35
      have hle_u : x_le u u_47 := (hM2.1).tr hle_u_32
      refine ⟨some (.int r_48), u_47, ⟨r_48, rfl, k⟩, hle_u, ?_⟩
      intro p e s m args below meth c A H locs ls F hw hl
      obtain ⟨⟨hx, hb, hml, hown, hts⟩, hr, hlocks, hmn⟩ := id F
      refine lv_aload_n hx hb d_G_rootOf_0 rfl (lv_at hl 0 rfl) ?_
      refine xr_get hx hb hts (xmu uws_G) hown hw h1 rfl (by decide) (hts _ (xm w_123)) (fun _ h9 => h9) d_G_rootOf_1 ?_
      refine lv_iload_n hx hb d_G_rootOf_4 rfl (lv_at hl 1 rfl) ?_
      refine xr_cV (As := [.int x1]) (rest := []) ⟨hx, hb, hml, hown, hts⟩ hw hM2 hle_u_32 (fun _ _ => ⟨callB_of 1 hts (xgood w_255) rfl rfl rfl (hts _ (xm w_2)) (hts _ (xm w_252)) ⟨by decide, by decide, by decide +kernel⟩ ⟨Nat.le_of_ble_eq_true rfl, Nat.le_of_ble_eq_true rfl⟩, (hts _ (xm w_253)), (hts _ (xm w_254))⟩) (qc := (R_F, F_F, 5)) rfl rfl h3 rfl hl.1 rfl (Nat.le_of_ble_eq_true rfl) d_G_rootOf_5 (fun H locs hw => ?_)
      refine W.eq (g2 := F0 m 8 ls [.int r_33]) rfl ?_
      refine lv_istore_n (lv' := [(3, .int r_33), (0, .ref x0), (1, .int x1), (2, .ref x2)]) hx hb d_G_rootOf_8 rfl hl (by decide) rfl (fun ls hl => ?_)
      refine lv_aload_n hx hb d_G_rootOf_9 rfl (lv_at hl 1 rfl) ?_
      refine xr_get hx hb hts (xmu uws_G) hown hw h4 rfl (by decide) (hts _ (xm w_123)) (fun _ h9 => h9) d_G_rootOf_10 ?_
      refine lv_iload_n hx hb d_G_rootOf_13 rfl (lv_at hl 2 rfl) ?_
      refine lv_iconst (v := 0) hx hb d_G_rootOf_14 (by decide) ?_
      refine xr_cV (As := [.int x1, .int 0]) (rest := []) ⟨hx, hb, hml, hown, hts⟩ hw hM5 hle_u_35 (fun _ _ => ⟨callB_of 2 hts (xgood w_284) rfl rfl rfl (hts _ (xm w_2)) (hts _ (xm w_281)) ⟨by decide, by decide, by decide +kernel⟩ ⟨Nat.le_of_ble_eq_true rfl, Nat.le_of_ble_eq_true rfl⟩, (hts _ (xm w_282)), (hts _ (xm w_283))⟩) (qc := (R_F, F_F, 5)) rfl rfl h6 rfl hl.1 rfl (Nat.le_of_ble_eq_true rfl) d_G_rootOf_15 (fun H locs hw => ?_)
      refine W.eq (g2 := F0 m 18 ls [.int r_36]) rfl ?_
      refine lv_istore (lv' := [(4, .int r_36), (3, .int r_33), (0, .ref x0), (1, .int x1), (2, .ref x2)]) hx hb d_G_rootOf_18 hl (by decide) rfl (fun ls hl => ?_)
      refine lv_iload_n hx hb d_G_rootOf_20 rfl (lv_at hl 1 rfl) ?_
      refine lv_if_ne (tgt := 27) hx hb d_G_rootOf_21 (by decide) (fun _ => ?_) (fun c9 => absurd c9 hc7)
      refine lv_iload_n hx hb d_G_rootOf_27 rfl (lv_at hl 1 rfl) ?_
      refine xr_cS (As := [.int r_33]) (rest := []) ⟨hx, hb, hml, hown, hts⟩ hw hM8 hle_u_37 (fun _ _ => ⟨callB_of 1 hts (xgood w_287) rfl rfl rfl (hts _ (xm w_5)) (hts _ (xm w_285)) ⟨by decide, by decide, by decide +kernel⟩ ⟨Nat.le_of_ble_eq_true rfl, Nat.le_of_ble_eq_true rfl⟩, (hts _ (xm w_286))⟩) rfl hl.1 rfl (Nat.le_of_ble_eq_true rfl) d_G_rootOf_28 (fun H locs hw => ?_)
      refine W.eq (g2 := F0 m 31 ls [.int r_38]) rfl ?_
      refine lv_istore (lv' := [(5, .int r_38), (4, .int r_36), (3, .int r_33), (0, .ref x0), (1, .int x1), (2, .ref x2)]) hx hb d_G_rootOf_31 hl (by decide) rfl (fun ls hl => ?_)
      refine lv_aload_n hx hb d_G_rootOf_33 rfl (lv_at hl 3 rfl) ?_
      refine xr_get hx hb hts (xmu uws_G) hown hw h9 rfl (by decide) (hts _ (xm w_124)) (fun _ h9 => h9) d_G_rootOf_34 ?_
      refine lv_iconst (v := 2) hx hb d_G_rootOf_37 (by decide) ?_
      refine lv_aload_n hx hb d_G_rootOf_38 rfl (lv_at hl 3 rfl) ?_
      refine xr_get hx hb hts (xmu uws_G) hown hw h10 rfl (by decide) (hts _ (xm w_124)) (fun _ h9 => h9) d_G_rootOf_39 ?_
      refine xr_cV (As := []) (rest := [.int 2, .ref z_39]) ⟨hx, hb, hml, hown, hts⟩ hw hM11 hle_u_41 (fun _ _ => ⟨callB_of 0 hts (xgood w_294) rfl rfl rfl (hts _ (xm w_4)) (hts _ (xm w_291)) ⟨by decide, by decide, by decide +kernel⟩ ⟨Nat.le_of_ble_eq_true rfl, Nat.le_of_ble_eq_true rfl⟩, (hts _ (xm w_292)), (hts _ (xm w_293))⟩) (qc := (R_N, F_N, 13)) rfl rfl h12 rfl hl.1 rfl (Nat.le_of_ble_eq_true rfl) d_G_rootOf_42 (fun H locs hw => ?_)
      refine W.eq (g2 := F0 m 45 ls [.int r_42, .int 2, .ref z_39]) rfl ?_
      refine lv_iadd hx hb d_G_rootOf_45 ?_
      refine lv_iconst (v := 1) hx hb d_G_rootOf_46 (by decide) ?_
      refine lv_iload hx hb d_G_rootOf_47 (lv_at hl 0 rfl) ?_
      refine lv_ishl hx hb d_G_rootOf_49 ?_
      refine lv_sipush (v := 269) hx hb d_G_rootOf_50 (by decide) ?_
      refine va_mmin hx hb (hml.trans hl.1.symm) hown (hts _ (xm w_295)) (hts _ (xm w_296)) (hts _ (xm w_14)) (hts _ (xm w_297)) (Nat.le_of_ble_eq_true rfl) (Nat.le_of_ble_eq_true rfl) (Nat.sub_le_sub_right hle_u_41.1 _) (Nat.sub_le_sub_right hle_u_41.2 _) d_G_rootOf_53 ?_
      refine lv_iadd hx hb d_G_rootOf_56 ?_
      refine xr_cV (As := [.int (((2 : Int32) + r_42) + (if (269 : Int32) < ((1 : Int32) <<< (r_38 &&& 31)) then (269 : Int32) else ((1 : Int32) <<< (r_38 &&& 31))))]) (rest := []) ⟨hx, hb, hml, hown, hts⟩ hw hM13 hle_u_43 (fun _ _ => ⟨callB_of 1 hts (xgood w_301) rfl rfl rfl (hts _ (xm w_4)) (hts _ (xm w_298)) ⟨by decide, by decide, by decide +kernel⟩ ⟨Nat.le_of_ble_eq_true rfl, Nat.le_of_ble_eq_true rfl⟩, (hts _ (xm w_299)), (hts _ (xm w_300))⟩) (qc := (R_N, F_N, 13)) rfl rfl h14 rfl hl.1 rfl (Nat.le_of_ble_eq_true rfl) d_G_rootOf_57 (fun H locs hw => ?_)
      refine W.eq (g2 := F0 m 60 ls []) rfl ?_
      refine lv_iload hx hb d_G_rootOf_60 (lv_at hl 0 rfl) ?_
      refine lv_iconst (v := 1) hx hb d_G_rootOf_62 (by decide) ?_
      refine lv_icmp_ne (tgt := 84) hx hb d_G_rootOf_63 (by decide) (fun c9 => absurd hc15 c9) (fun _ => ?_)
      refine lv_aload_n hx hb d_G_rootOf_66 rfl (lv_at hl 3 rfl) ?_
      refine xr_get hx hb hts (xmu uws_G) hown hw h16 rfl (by decide) (hts _ (xm w_124)) (fun _ h9 => h9) d_G_rootOf_67 ?_
      refine lv_iload_n hx hb d_G_rootOf_70 rfl (lv_at hl 2 rfl) ?_
      refine xr_cS (As := [.int r_33]) (rest := [.ref z_44]) ⟨hx, hb, hml, hown, hts⟩ hw hM17 hle_u_45 (fun _ _ => ⟨callB_of 1 hts (xgood w_68) rfl rfl rfl (hts _ (xm w_5)) (hts _ (xm w_313)) ⟨by decide, by decide, by decide +kernel⟩ ⟨Nat.le_of_ble_eq_true rfl, Nat.le_of_ble_eq_true rfl⟩, (hts _ (xm w_67))⟩) rfl hl.1 rfl (Nat.le_of_ble_eq_true rfl) d_G_rootOf_71 (fun H locs hw => ?_)
      refine W.eq (g2 := F0 m 74 ls [.int r_46, .ref z_44]) rfl ?_
      refine lv_iload hx hb d_G_rootOf_74 (lv_at hl 1 rfl) ?_
      refine lv_iconst (v := 1) hx hb d_G_rootOf_76 (by decide) ?_
      refine lv_iload hx hb d_G_rootOf_77 (lv_at hl 1 rfl) ?_
      refine lv_isub hx hb d_G_rootOf_79 ?_
      refine xr_cV (As := [.int r_46, .int r_36, .int ((1 : Int32) - r_36)]) (rest := []) ⟨hx, hb, hml, hown, hts⟩ hw hM18 hle_u_47 (fun _ _ => ⟨callB_of 3 hts (xgood w_317) rfl rfl rfl (hts _ (xm w_4)) (hts _ (xm w_314)) ⟨by decide, by decide, by decide +kernel⟩ ⟨Nat.le_of_ble_eq_true rfl, Nat.le_of_ble_eq_true rfl⟩, (hts _ (xm w_315)), (hts _ (xm w_316))⟩) (qc := (R_N, F_N, 13)) rfl rfl h19 rfl hl.1 rfl (Nat.le_of_ble_eq_true rfl) d_G_rootOf_80 (fun H locs hw => ?_)
      refine W.eq (g2 := F0 m 83 ls [.int r_48]) rfl ?_
      exact xr_iret F rfl hw d_G_rootOf_83
    · have k := k.1 hc15
      obtain ⟨n20, k⟩ := k
      have hx22 : ∀ (v21 : PS), (p_G_rootOf_J128 K x0 x1 r_38 v21) → XN l Z i_G_rootOf u (kI K) v21 128 [(0, .ref x0), (1, .int x1), (5, .int r_38)] [] := by
        intro v21 k
        obtain ⟨rv, v9, hK, hle_v21, w9⟩ := t_G_rootOf_J128 l Z u x0 x1 r_38 v21 k
        refine ⟨rv, v9, hK, hle_v21, ?_⟩
        intro p e s m args below meth c A H locs ls F hw hl
        obtain ⟨⟨hx, hb, hml, hown, hts⟩, hr, hlocks, hmn⟩ := id F
        exact w9 p e s m args below meth c A H locs ls F hw (lv_sub hl [0, 1, 2] rfl)
      obtain ⟨rv, v9, hK, hle_u_43, w9⟩ := t_G_rootOf_L91 l Z u x0 x1 x2 r_33 r_38 hx22 n20 (0 : Int32) (9 : Int32) u_43 k
      have hle_u_41 : x_le u_41 v9 := (hM13.1).tr hle_u_43
      have hle_u_37 : x_le u_37 v9 := (hM11.1).tr hle_u_41
      have hle_u_35 : x_le u_35 v9 := (hM8.1).tr hle_u_37
      have hle_u_32 : x_le u_32 v9 := (hM5.1).tr hle_u_35
      have hle_u : x_le u v9 := (hM2.1).tr hle_u_32
      refine ⟨rv, v9, hK, hle_u, ?_⟩
      intro p e s m args below meth c A H locs ls F hw hl
      obtain ⟨⟨hx, hb, hml, hown, hts⟩, hr, hlocks, hmn⟩ := id F
      refine lv_aload_n hx hb d_G_rootOf_0 rfl (lv_at hl 0 rfl) ?_
      refine xr_get hx hb hts (xmu uws_G) hown hw h1 rfl (by decide) (hts _ (xm w_123)) (fun _ h9 => h9) d_G_rootOf_1 ?_
      refine lv_iload_n hx hb d_G_rootOf_4 rfl (lv_at hl 1 rfl) ?_
      refine xr_cV (As := [.int x1]) (rest := []) ⟨hx, hb, hml, hown, hts⟩ hw hM2 hle_u_32 (fun _ _ => ⟨callB_of 1 hts (xgood w_255) rfl rfl rfl (hts _ (xm w_2)) (hts _ (xm w_252)) ⟨by decide, by decide, by decide +kernel⟩ ⟨Nat.le_of_ble_eq_true rfl, Nat.le_of_ble_eq_true rfl⟩, (hts _ (xm w_253)), (hts _ (xm w_254))⟩) (qc := (R_F, F_F, 5)) rfl rfl h3 rfl hl.1 rfl (Nat.le_of_ble_eq_true rfl) d_G_rootOf_5 (fun H locs hw => ?_)
      refine W.eq (g2 := F0 m 8 ls [.int r_33]) rfl ?_
      refine lv_istore_n (lv' := [(3, .int r_33), (0, .ref x0), (1, .int x1), (2, .ref x2)]) hx hb d_G_rootOf_8 rfl hl (by decide) rfl (fun ls hl => ?_)
      refine lv_aload_n hx hb d_G_rootOf_9 rfl (lv_at hl 1 rfl) ?_
      refine xr_get hx hb hts (xmu uws_G) hown hw h4 rfl (by decide) (hts _ (xm w_123)) (fun _ h9 => h9) d_G_rootOf_10 ?_
      refine lv_iload_n hx hb d_G_rootOf_13 rfl (lv_at hl 2 rfl) ?_
      refine lv_iconst (v := 0) hx hb d_G_rootOf_14 (by decide) ?_
      refine xr_cV (As := [.int x1, .int 0]) (rest := []) ⟨hx, hb, hml, hown, hts⟩ hw hM5 hle_u_35 (fun _ _ => ⟨callB_of 2 hts (xgood w_284) rfl rfl rfl (hts _ (xm w_2)) (hts _ (xm w_281)) ⟨by decide, by decide, by decide +kernel⟩ ⟨Nat.le_of_ble_eq_true rfl, Nat.le_of_ble_eq_true rfl⟩, (hts _ (xm w_282)), (hts _ (xm w_283))⟩) (qc := (R_F, F_F, 5)) rfl rfl h6 rfl hl.1 rfl (Nat.le_of_ble_eq_true rfl) d_G_rootOf_15 (fun H locs hw => ?_)
      refine W.eq (g2 := F0 m 18 ls [.int r_36]) rfl ?_
      refine lv_istore (lv' := [(4, .int r_36), (3, .int r_33), (0, .ref x0), (1, .int x1), (2, .ref x2)]) hx hb d_G_rootOf_18 hl (by decide) rfl (fun ls hl => ?_)
      refine lv_iload_n hx hb d_G_rootOf_20 rfl (lv_at hl 1 rfl) ?_
      refine lv_if_ne (tgt := 27) hx hb d_G_rootOf_21 (by decide) (fun _ => ?_) (fun c9 => absurd c9 hc7)
      refine lv_iload_n hx hb d_G_rootOf_27 rfl (lv_at hl 1 rfl) ?_
      refine xr_cS (As := [.int r_33]) (rest := []) ⟨hx, hb, hml, hown, hts⟩ hw hM8 hle_u_37 (fun _ _ => ⟨callB_of 1 hts (xgood w_287) rfl rfl rfl (hts _ (xm w_5)) (hts _ (xm w_285)) ⟨by decide, by decide, by decide +kernel⟩ ⟨Nat.le_of_ble_eq_true rfl, Nat.le_of_ble_eq_true rfl⟩, (hts _ (xm w_286))⟩) rfl hl.1 rfl (Nat.le_of_ble_eq_true rfl) d_G_rootOf_28 (fun H locs hw => ?_)
      refine W.eq (g2 := F0 m 31 ls [.int r_38]) rfl ?_
      refine lv_istore (lv' := [(5, .int r_38), (4, .int r_36), (3, .int r_33), (0, .ref x0), (1, .int x1), (2, .ref x2)]) hx hb d_G_rootOf_31 hl (by decide) rfl (fun ls hl => ?_)
      refine lv_aload_n hx hb d_G_rootOf_33 rfl (lv_at hl 3 rfl) ?_
      refine xr_get hx hb hts (xmu uws_G) hown hw h9 rfl (by decide) (hts _ (xm w_124)) (fun _ h9 => h9) d_G_rootOf_34 ?_
      refine lv_iconst (v := 2) hx hb d_G_rootOf_37 (by decide) ?_
      refine lv_aload_n hx hb d_G_rootOf_38 rfl (lv_at hl 3 rfl) ?_
      refine xr_get hx hb hts (xmu uws_G) hown hw h10 rfl (by decide) (hts _ (xm w_124)) (fun _ h9 => h9) d_G_rootOf_39 ?_
      refine xr_cV (As := []) (rest := [.int 2, .ref z_39]) ⟨hx, hb, hml, hown, hts⟩ hw hM11 hle_u_41 (fun _ _ => ⟨callB_of 0 hts (xgood w_294) rfl rfl rfl (hts _ (xm w_4)) (hts _ (xm w_291)) ⟨by decide, by decide, by decide +kernel⟩ ⟨Nat.le_of_ble_eq_true rfl, Nat.le_of_ble_eq_true rfl⟩, (hts _ (xm w_292)), (hts _ (xm w_293))⟩) (qc := (R_N, F_N, 13)) rfl rfl h12 rfl hl.1 rfl (Nat.le_of_ble_eq_true rfl) d_G_rootOf_42 (fun H locs hw => ?_)
      refine W.eq (g2 := F0 m 45 ls [.int r_42, .int 2, .ref z_39]) rfl ?_
      refine lv_iadd hx hb d_G_rootOf_45 ?_
      refine lv_iconst (v := 1) hx hb d_G_rootOf_46 (by decide) ?_
      refine lv_iload hx hb d_G_rootOf_47 (lv_at hl 0 rfl) ?_
      refine lv_ishl hx hb d_G_rootOf_49 ?_
      refine lv_sipush (v := 269) hx hb d_G_rootOf_50 (by decide) ?_
      refine va_mmin hx hb (hml.trans hl.1.symm) hown (hts _ (xm w_295)) (hts _ (xm w_296)) (hts _ (xm w_14)) (hts _ (xm w_297)) (Nat.le_of_ble_eq_true rfl) (Nat.le_of_ble_eq_true rfl) (Nat.sub_le_sub_right hle_u_41.1 _) (Nat.sub_le_sub_right hle_u_41.2 _) d_G_rootOf_53 ?_
      refine lv_iadd hx hb d_G_rootOf_56 ?_
      refine xr_cV (As := [.int (((2 : Int32) + r_42) + (if (269 : Int32) < ((1 : Int32) <<< (r_38 &&& 31)) then (269 : Int32) else ((1 : Int32) <<< (r_38 &&& 31))))]) (rest := []) ⟨hx, hb, hml, hown, hts⟩ hw hM13 hle_u_43 (fun _ _ => ⟨callB_of 1 hts (xgood w_301) rfl rfl rfl (hts _ (xm w_4)) (hts _ (xm w_298)) ⟨by decide, by decide, by decide +kernel⟩ ⟨Nat.le_of_ble_eq_true rfl, Nat.le_of_ble_eq_true rfl⟩, (hts _ (xm w_299)), (hts _ (xm w_300))⟩) (qc := (R_N, F_N, 13)) rfl rfl h14 rfl hl.1 rfl (Nat.le_of_ble_eq_true rfl) d_G_rootOf_57 (fun H locs hw => ?_)
      refine W.eq (g2 := F0 m 60 ls []) rfl ?_
      refine lv_iload hx hb d_G_rootOf_60 (lv_at hl 0 rfl) ?_
      refine lv_iconst (v := 1) hx hb d_G_rootOf_62 (by decide) ?_
      refine lv_icmp_ne (tgt := 84) hx hb d_G_rootOf_63 (by decide) (fun _ => ?_) (fun c9 => absurd c9 hc15)
      refine lv_iconst (v := 0) hx hb d_G_rootOf_84 (by decide) ?_
      refine lv_istore (lv' := [(6, .int 0), (5, .int r_38), (4, .int r_36), (3, .int r_33), (0, .ref x0), (1, .int x1), (2, .ref x2)]) hx hb d_G_rootOf_85 hl (by decide) rfl (fun ls hl => ?_)
      refine lv_bipush (v := 9) hx hb d_G_rootOf_87 (by decide) ?_
      refine lv_istore (lv' := [(7, .int 9), (6, .int 0), (5, .int r_38), (4, .int r_36), (3, .int r_33), (0, .ref x0), (1, .int x1), (2, .ref x2)]) hx hb d_G_rootOf_89 hl (by decide) rfl (fun ls hl => ?_)
      exact w9 p e s m args below meth c A H locs ls F hw (lv_sub hl [5, 6, 7, 4, 2, 1, 0] rfl)
set_option maxRecDepth 100000 in
set_option maxHeartbeats 4000000 in
theorem c_T_init (l : Launch) (Z : XZ) (x0 : Nat) (x1 : Nat) (u : PS) (K : PS → Prop) (k : p_T_init x0 x1 u K) : ∃ (rv : Option Value) (u1 : PS), (kV K) rv u1 ∧ XMet l Z i_T_init [.ref x0, .ref x1] u rv u1 := by
  refine x_met (by decide) rfl (Nat.le_of_ble_eq_true rfl) ?_
  show XN l Z i_T_init u (kV K) u 0 [(0, .ref x0), (1, .ref x1)] []
  unfold p_T_init at k
  obtain ⟨u_21, h1, k⟩ := k
  obtain ⟨a_22, u_23, h2, k⟩ := k
  obtain ⟨u_24, h3, k⟩ := k
  obtain ⟨a_25, u_26, h4, k⟩ := k
  obtain ⟨u_27, h5, k⟩ := k
  obtain ⟨u_28, h6, k⟩ := k
  obtain ⟨a_29, u_30, h7, k⟩ := k
  obtain ⟨u_31, h8, k⟩ := k
  obtain ⟨a_32, u_33, h9, k⟩ := k
  obtain ⟨u_34, h10, k⟩ := k
  obtain ⟨a_35, u_36, h11, k⟩ := k
  obtain ⟨u_37, h12, k⟩ := k
  obtain ⟨a_38, u_39, h13, k⟩ := k
  obtain ⟨u_40, h14, k⟩ := k
  have hle_u_40 : x_le u_40 u_40 := x_le.rf u_40
  have hle_u_39 : x_le u_39 u_40 := (h14.le).tr hle_u_40
  have hle_u_37 : x_le u_37 u_40 := (h13.le).tr hle_u_39
  have hle_u_36 : x_le u_36 u_40 := (h12.le).tr hle_u_37
  have hle_u_34 : x_le u_34 u_40 := (h11.le).tr hle_u_36
  have hle_u_33 : x_le u_33 u_40 := (h10.le).tr hle_u_34
  have hle_u_31 : x_le u_31 u_40 := (h9.le).tr hle_u_33
  have hle_u_30 : x_le u_30 u_40 := (h8.le).tr hle_u_31
  have hle_u_28 : x_le u_28 u_40 := (h7.le).tr hle_u_30
  have hle_u_27 : x_le u_27 u_40 := (h6.le).tr hle_u_28
  have hle_u_26 : x_le u_26 u_40 := (h5.le).tr hle_u_27
  have hle_u_24 : x_le u_24 u_40 := (h4.le).tr hle_u_26
  have hle_u_23 : x_le u_23 u_40 := (h3.le).tr hle_u_24
  have hle_u_21 : x_le u_21 u_40 := (h2.le).tr hle_u_23
  have hle_u : x_le u u_40 := (h1.le).tr hle_u_21
  refine ⟨none, u_40, ⟨rfl, k⟩, hle_u, ?_⟩
  intro p e s m args below meth c A H locs ls F hw hl
  obtain ⟨⟨hx, hb, hml, hown, hts⟩, hr, hlocks, hmn⟩ := id F
  refine lv_aload_n hx hb d_T_init_0 rfl (lv_at hl 0 rfl) ?_
  refine W.objInit hx hb hown (hts _ (xm w_159)) (hts _ (xm w_23)) (hts _ (xm w_24)) rfl (by rw [hml]; exact hl.1) rfl d_T_init_1 (Nat.le_of_ble_eq_true rfl) (Nat.le_of_ble_eq_true rfl) ?_
  refine W.eq (g2 := F0 m 4 ls []) rfl ?_
  refine lv_aload_n hx hb d_T_init_4 rfl (lv_at hl 0 rfl) ?_
  refine lv_aload_n hx hb d_T_init_5 rfl (lv_at hl 1 rfl) ?_
  refine xr_putF (ty := .object "DiagramHouse$Nodes") hx hb hts (xmu uws_T) tyc_T tyc_T_ok nmc_T hown hw h1 rfl (by decide) (hts _ (xm w_160)) (fun _ h9 => h9) rfl hmn rfl (by decide +kernel) rfl rfl d_T_init_6 (fun H locs hw => ?_)
  refine lv_aload_n hx hb d_T_init_9 rfl (lv_at hl 0 rfl) ?_
  refine lv_bipush (v := 64) hx hb d_T_init_10 (by decide) ?_
  refine xr_newai hx hb rfl (hts _ (xm w_51)) hw h2 hle_u_23 d_T_init_12 (fun H hw => ?_)
  refine xr_put (ty := .array .int) hx hb hts (xmu uws_T) tyc_T tyc_T_ok nmc_T hown hw h3 rfl (by decide) (hts _ (xm w_163)) (fun _ h9 => h9) rfl (by decide +kernel) rfl rfl d_T_init_14 (fun H locs hw => ?_)
  refine lv_aload_n hx hb d_T_init_17 rfl (lv_at hl 0 rfl) ?_
  refine lv_bipush (v := 64) hx hb d_T_init_18 (by decide) ?_
  refine xr_newai hx hb rfl (hts _ (xm w_51)) hw h4 hle_u_26 d_T_init_20 (fun H hw => ?_)
  refine xr_put (ty := .array .int) hx hb hts (xmu uws_T) tyc_T tyc_T_ok nmc_T hown hw h5 rfl (by decide) (hts _ (xm w_164)) (fun _ h9 => h9) rfl (by decide +kernel) rfl rfl d_T_init_22 (fun H locs hw => ?_)
  refine lv_aload_n hx hb d_T_init_25 rfl (lv_at hl 0 rfl) ?_
  refine lv_iconst (v := 0) hx hb d_T_init_26 (by decide) ?_
  refine xr_put (ty := .int) hx hb hts (xmu uws_T) tyc_T tyc_T_ok nmc_T hown hw h6 rfl (by decide) (hts _ (xm w_165)) (fun _ h9 => h9) rfl (by decide +kernel) rfl rfl d_T_init_27 (fun H locs hw => ?_)
  refine lv_aload_n hx hb d_T_init_30 rfl (lv_at hl 0 rfl) ?_
  refine lv_bipush (v := 64) hx hb d_T_init_31 (by decide) ?_
  refine xr_newai hx hb rfl (hts _ (xm w_51)) hw h7 hle_u_30 d_T_init_33 (fun H hw => ?_)
  refine xr_put (ty := .array .int) hx hb hts (xmu uws_T) tyc_T tyc_T_ok nmc_T hown hw h8 rfl (by decide) (hts _ (xm w_166)) (fun _ h9 => h9) rfl (by decide +kernel) rfl rfl d_T_init_35 (fun H locs hw => ?_)
  refine lv_aload_n hx hb d_T_init_38 rfl (lv_at hl 0 rfl) ?_
  refine lv_bipush (v := 64) hx hb d_T_init_39 (by decide) ?_
  refine xr_newai hx hb rfl (hts _ (xm w_51)) hw h9 hle_u_33 d_T_init_41 (fun H hw => ?_)
  refine xr_put (ty := .array .int) hx hb hts (xmu uws_T) tyc_T tyc_T_ok nmc_T hown hw h10 rfl (by decide) (hts _ (xm w_167)) (fun _ h9 => h9) rfl (by decide +kernel) rfl rfl d_T_init_43 (fun H locs hw => ?_)
  refine lv_aload_n hx hb d_T_init_46 rfl (lv_at hl 0 rfl) ?_
  refine lv_bipush (v := 11) hx hb d_T_init_47 (by decide) ?_
  refine xr_newai hx hb rfl (hts _ (xm w_51)) hw h11 hle_u_36 d_T_init_49 (fun H hw => ?_)
  refine xr_putF (ty := .array .int) hx hb hts (xmu uws_T) tyc_T tyc_T_ok nmc_T hown hw h12 rfl (by decide) (hts _ (xm w_168)) (fun _ h9 => h9) rfl hmn rfl (by decide +kernel) rfl rfl d_T_init_51 (fun H locs hw => ?_)
  refine lv_aload_n hx hb d_T_init_54 rfl (lv_at hl 0 rfl) ?_
  refine lv_bipush (v := 11) hx hb d_T_init_55 (by decide) ?_
  refine xr_newai hx hb rfl (hts _ (xm w_51)) hw h13 hle_u_39 d_T_init_57 (fun H hw => ?_)
  refine xr_putF (ty := .array .int) hx hb hts (xmu uws_T) tyc_T tyc_T_ok nmc_T hown hw h14 rfl (by decide) (hts _ (xm w_169)) (fun _ h9 => h9) rfl hmn rfl (by decide +kernel) rfl rfl d_T_init_59 (fun H locs hw => ?_)
  exact xr_vret F rfl hw d_T_init_62
set_option maxRecDepth 100000 in
set_option maxHeartbeats 4000000 in
theorem c_T_asks (l : Launch) (Z : XZ) (x0 : Nat) (u : PS) (K : Int32 → PS → Prop) (k : p_T_asks x0 u K) : ∃ (rv : Option Value) (u1 : PS), (kI K) rv u1 ∧ XMet l Z i_T_asks [.ref x0] u rv u1 := by
  refine x_met (by decide) rfl (Nat.le_of_ble_eq_true rfl) ?_
  show XN l Z i_T_asks u (kI K) u 0 [(0, .ref x0)] []
  unfold p_T_asks at k
  obtain ⟨z_2, h1, k⟩ := k
  have hle_u : x_le u u := x_le.rf u
  refine ⟨some (.int z_2), u, ⟨z_2, rfl, k⟩, hle_u, ?_⟩
  intro p e s m args below meth c A H locs ls F hw hl
  obtain ⟨⟨hx, hb, hml, hown, hts⟩, hr, hlocks, hmn⟩ := id F
  refine lv_aload_n hx hb d_T_asks_0 rfl (lv_at hl 0 rfl) ?_
  refine xr_get hx hb hts (xmu uws_T) hown hw h1 rfl (by decide) (hts _ (xm w_162)) (fun _ h9 => h9) d_T_asks_1 ?_
  exact xr_iret F rfl hw d_T_asks_4
set_option maxRecDepth 100000 in
set_option maxHeartbeats 4000000 in
theorem c_T_fitNodes (l : Launch) (Z : XZ) (x0 : Nat) (u : PS) (K : PS → Prop) (k : p_T_fitNodes x0 u K) : ∃ (rv : Option Value) (u1 : PS), (kV K) rv u1 ∧ XMet l Z i_T_fitNodes [.ref x0] u rv u1 := by
  refine x_met (by decide) rfl (Nat.le_of_ble_eq_true rfl) ?_
  show XN l Z i_T_fitNodes u (kV K) u 0 [(0, .ref x0)] []
  unfold p_T_fitNodes at k
  obtain ⟨z_22, h1, k⟩ := k
  obtain ⟨z_23, h2, k⟩ := k
  obtain ⟨z_24, h3, k⟩ := k
  obtain ⟨z_25, h4, k⟩ := k
  obtain ⟨z_26, h5, k⟩ := k
  by_cases hc6 : z_24 ≤ z_26
  · have k := k.1 hc6
    have hle_u : x_le u u := x_le.rf u
    refine ⟨none, u, ⟨rfl, k⟩, hle_u, ?_⟩
    intro p e s m args below meth c A H locs ls F hw hl
    obtain ⟨⟨hx, hb, hml, hown, hts⟩, hr, hlocks, hmn⟩ := id F
    refine lv_aload_n hx hb d_T_fitNodes_0 rfl (lv_at hl 0 rfl) ?_
    refine xr_get hx hb hts (xmu uws_T) hown hw h1 rfl (by decide) (hts _ (xm w_160)) (fun _ h9 => h9) d_T_fitNodes_1 ?_
    refine xr_get hx hb hts (xmu uws_N) hown hw h2 rfl (by decide) (hts _ (xm w_73)) (fun _ h9 => h9) d_T_fitNodes_4 ?_
    refine xr_alen hx hb hw rfl h3 d_T_fitNodes_7 ?_
    refine lv_istore_n (lv' := [(1, .int z_24), (0, .ref x0)]) hx hb d_T_fitNodes_8 rfl hl (by decide) rfl (fun ls hl => ?_)
    refine lv_aload_n hx hb d_T_fitNodes_9 rfl (lv_at hl 1 rfl) ?_
    refine xr_get hx hb hts (xmu uws_T) hown hw h4 rfl (by decide) (hts _ (xm w_163)) (fun _ h9 => h9) d_T_fitNodes_10 ?_
    refine xr_alen hx hb hw rfl h5 d_T_fitNodes_13 ?_
    refine lv_iload_n hx hb d_T_fitNodes_14 rfl (lv_at hl 0 rfl) ?_
    refine lv_icmp_ge (tgt := 66) hx hb d_T_fitNodes_15 (by decide) (fun _ => ?_) (fun c9 => absurd hc6 c9)
    exact xr_vret F rfl hw d_T_fitNodes_66
  · have k := k.2 hc6
    obtain ⟨z_27, h7, k⟩ := k
    obtain ⟨_, u_28, ⟨r_29, rfl, k⟩, hM8⟩ := c_N_lengthened l Z z_27 z_24 u _ k
    obtain ⟨u_30, h9, k⟩ := k
    obtain ⟨z_31, h10, k⟩ := k
    obtain ⟨_, u_32, ⟨r_33, rfl, k⟩, hM11⟩ := c_N_lengthened l Z z_31 z_24 u_30 _ k
    obtain ⟨u_34, h12, k⟩ := k
    obtain ⟨z_35, h13, k⟩ := k
    obtain ⟨_, u_36, ⟨r_37, rfl, k⟩, hM14⟩ := c_N_lengthened l Z z_35 z_24 u_34 _ k
    obtain ⟨u_38, h15, k⟩ := k
    obtain ⟨z_39, h16, k⟩ := k
    obtain ⟨_, u_40, ⟨r_41, rfl, k⟩, hM17⟩ := c_N_lengthened l Z z_39 z_24 u_38 _ k
    obtain ⟨u_42, h18, k⟩ := k
    have hle_u_42 : x_le u_42 u_42 := x_le.rf u_42
    have hle_u_40 : x_le u_40 u_42 := (h18.le).tr hle_u_42
    have hle_u_38 : x_le u_38 u_42 := (hM17.1).tr hle_u_40
    have hle_u_36 : x_le u_36 u_42 := (h15.le).tr hle_u_38
    have hle_u_34 : x_le u_34 u_42 := (hM14.1).tr hle_u_36
    have hle_u_32 : x_le u_32 u_42 := (h12.le).tr hle_u_34
    have hle_u_30 : x_le u_30 u_42 := (hM11.1).tr hle_u_32
    have hle_u_28 : x_le u_28 u_42 := (h9.le).tr hle_u_30
    have hle_u : x_le u u_42 := (hM8.1).tr hle_u_28
    refine ⟨none, u_42, ⟨rfl, k⟩, hle_u, ?_⟩
    intro p e s m args below meth c A H locs ls F hw hl
    obtain ⟨⟨hx, hb, hml, hown, hts⟩, hr, hlocks, hmn⟩ := id F
    refine lv_aload_n hx hb d_T_fitNodes_0 rfl (lv_at hl 0 rfl) ?_
    refine xr_get hx hb hts (xmu uws_T) hown hw h1 rfl (by decide) (hts _ (xm w_160)) (fun _ h9 => h9) d_T_fitNodes_1 ?_
    refine xr_get hx hb hts (xmu uws_N) hown hw h2 rfl (by decide) (hts _ (xm w_73)) (fun _ h9 => h9) d_T_fitNodes_4 ?_
    refine xr_alen hx hb hw rfl h3 d_T_fitNodes_7 ?_
    refine lv_istore_n (lv' := [(1, .int z_24), (0, .ref x0)]) hx hb d_T_fitNodes_8 rfl hl (by decide) rfl (fun ls hl => ?_)
    refine lv_aload_n hx hb d_T_fitNodes_9 rfl (lv_at hl 1 rfl) ?_
    refine xr_get hx hb hts (xmu uws_T) hown hw h4 rfl (by decide) (hts _ (xm w_163)) (fun _ h9 => h9) d_T_fitNodes_10 ?_
    refine xr_alen hx hb hw rfl h5 d_T_fitNodes_13 ?_
    refine lv_iload_n hx hb d_T_fitNodes_14 rfl (lv_at hl 0 rfl) ?_
    refine lv_icmp_ge (tgt := 66) hx hb d_T_fitNodes_15 (by decide) (fun c9 => absurd c9 hc6) (fun _ => ?_)
    refine lv_aload_n hx hb d_T_fitNodes_18 rfl (lv_at hl 1 rfl) ?_
    refine lv_aload_n hx hb d_T_fitNodes_19 rfl (lv_at hl 1 rfl) ?_
    refine xr_get hx hb hts (xmu uws_T) hown hw h7 rfl (by decide) (hts _ (xm w_163)) (fun _ h9 => h9) d_T_fitNodes_20 ?_
    refine lv_iload_n hx hb d_T_fitNodes_23 rfl (lv_at hl 0 rfl) ?_
    refine xr_cS (As := [.ref z_27, .int z_24]) (rest := [.ref x0]) ⟨hx, hb, hml, hown, hts⟩ hw hM8 hle_u_28 (fun _ _ => ⟨callB_of 2 hts (xgood w_304) rfl rfl rfl (hts _ (xm w_4)) (hts _ (xm w_430)) ⟨by decide, by decide, by decide +kernel⟩ ⟨Nat.le_of_ble_eq_true rfl, Nat.le_of_ble_eq_true rfl⟩, (hts _ (xm w_303))⟩) rfl hl.1 rfl (Nat.le_of_ble_eq_true rfl) d_T_fitNodes_24 (fun H locs hw => ?_)
    refine W.eq (g2 := F0 m 27 ls [.ref r_29, .ref x0]) rfl ?_
    refine xr_put (ty := .array .int) hx hb hts (xmu uws_T) tyc_T tyc_T_ok nmc_T hown hw h9 rfl (by decide) (hts _ (xm w_163)) (fun _ h9 => h9) rfl (by decide +kernel) rfl rfl d_T_fitNodes_27 (fun H locs hw => ?_)
    refine lv_aload_n hx hb d_T_fitNodes_30 rfl (lv_at hl 1 rfl) ?_
    refine lv_aload_n hx hb d_T_fitNodes_31 rfl (lv_at hl 1 rfl) ?_
    refine xr_get hx hb hts (xmu uws_T) hown hw h10 rfl (by decide) (hts _ (xm w_164)) (fun _ h9 => h9) d_T_fitNodes_32 ?_
    refine lv_iload_n hx hb d_T_fitNodes_35 rfl (lv_at hl 0 rfl) ?_
    refine xr_cS (As := [.ref z_31, .int z_24]) (rest := [.ref x0]) ⟨hx, hb, hml, hown, hts⟩ hw hM11 hle_u_32 (fun _ _ => ⟨callB_of 2 hts (xgood w_304) rfl rfl rfl (hts _ (xm w_4)) (hts _ (xm w_430)) ⟨by decide, by decide, by decide +kernel⟩ ⟨Nat.le_of_ble_eq_true rfl, Nat.le_of_ble_eq_true rfl⟩, (hts _ (xm w_303))⟩) rfl hl.1 rfl (Nat.le_of_ble_eq_true rfl) d_T_fitNodes_36 (fun H locs hw => ?_)
    refine W.eq (g2 := F0 m 39 ls [.ref r_33, .ref x0]) rfl ?_
    refine xr_put (ty := .array .int) hx hb hts (xmu uws_T) tyc_T tyc_T_ok nmc_T hown hw h12 rfl (by decide) (hts _ (xm w_164)) (fun _ h9 => h9) rfl (by decide +kernel) rfl rfl d_T_fitNodes_39 (fun H locs hw => ?_)
    refine lv_aload_n hx hb d_T_fitNodes_42 rfl (lv_at hl 1 rfl) ?_
    refine lv_aload_n hx hb d_T_fitNodes_43 rfl (lv_at hl 1 rfl) ?_
    refine xr_get hx hb hts (xmu uws_T) hown hw h13 rfl (by decide) (hts _ (xm w_166)) (fun _ h9 => h9) d_T_fitNodes_44 ?_
    refine lv_iload_n hx hb d_T_fitNodes_47 rfl (lv_at hl 0 rfl) ?_
    refine xr_cS (As := [.ref z_35, .int z_24]) (rest := [.ref x0]) ⟨hx, hb, hml, hown, hts⟩ hw hM14 hle_u_36 (fun _ _ => ⟨callB_of 2 hts (xgood w_304) rfl rfl rfl (hts _ (xm w_4)) (hts _ (xm w_430)) ⟨by decide, by decide, by decide +kernel⟩ ⟨Nat.le_of_ble_eq_true rfl, Nat.le_of_ble_eq_true rfl⟩, (hts _ (xm w_303))⟩) rfl hl.1 rfl (Nat.le_of_ble_eq_true rfl) d_T_fitNodes_48 (fun H locs hw => ?_)
    refine W.eq (g2 := F0 m 51 ls [.ref r_37, .ref x0]) rfl ?_
    refine xr_put (ty := .array .int) hx hb hts (xmu uws_T) tyc_T tyc_T_ok nmc_T hown hw h15 rfl (by decide) (hts _ (xm w_166)) (fun _ h9 => h9) rfl (by decide +kernel) rfl rfl d_T_fitNodes_51 (fun H locs hw => ?_)
    refine lv_aload_n hx hb d_T_fitNodes_54 rfl (lv_at hl 1 rfl) ?_
    refine lv_aload_n hx hb d_T_fitNodes_55 rfl (lv_at hl 1 rfl) ?_
    refine xr_get hx hb hts (xmu uws_T) hown hw h16 rfl (by decide) (hts _ (xm w_167)) (fun _ h9 => h9) d_T_fitNodes_56 ?_
    refine lv_iload_n hx hb d_T_fitNodes_59 rfl (lv_at hl 0 rfl) ?_
    refine xr_cS (As := [.ref z_39, .int z_24]) (rest := [.ref x0]) ⟨hx, hb, hml, hown, hts⟩ hw hM17 hle_u_40 (fun _ _ => ⟨callB_of 2 hts (xgood w_304) rfl rfl rfl (hts _ (xm w_4)) (hts _ (xm w_430)) ⟨by decide, by decide, by decide +kernel⟩ ⟨Nat.le_of_ble_eq_true rfl, Nat.le_of_ble_eq_true rfl⟩, (hts _ (xm w_303))⟩) rfl hl.1 rfl (Nat.le_of_ble_eq_true rfl) d_T_fitNodes_60 (fun H locs hw => ?_)
    refine W.eq (g2 := F0 m 63 ls [.ref r_41, .ref x0]) rfl ?_
    refine xr_put (ty := .array .int) hx hb hts (xmu uws_T) tyc_T tyc_T_ok nmc_T hown hw h18 rfl (by decide) (hts _ (xm w_167)) (fun _ h9 => h9) rfl (by decide +kernel) rfl rfl d_T_fitNodes_63 (fun H locs hw => ?_)
    exact xr_vret F rfl hw d_T_fitNodes_66
