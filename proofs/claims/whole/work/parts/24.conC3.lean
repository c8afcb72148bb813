set_option maxRecDepth 100000 in
set_option maxHeartbeats 4000000 in
theorem c_N_wholeSize (l : Launch) (Z : XZ) (x0 : Nat) (u : PS) (K : Int32 → PS → Prop) (k : p_N_wholeSize x0 u K) : ∃ (rv : Option Value) (u1 : PS), (kI K) rv u1 ∧ XMet l Z i_N_wholeSize [.ref x0] u rv u1 := by
  refine x_met (by decide) rfl (Nat.le_of_ble_eq_true rfl) ?_
  show XN l Z i_N_wholeSize u (kI K) u 0 [(0, .ref x0)] []
  unfold p_N_wholeSize at k
  obtain ⟨z_2, h1, k⟩ := k
  have hle_u : x_le u u := x_le.rf u
  refine ⟨some (.int z_2), u, ⟨z_2, rfl, k⟩, hle_u, ?_⟩
  intro p e s m args below meth c A H locs ls F hw hl
  obtain ⟨⟨hx, hb, hml, hown, hts⟩, hr, hlocks, hmn⟩ := id F
  refine lv_aload_n hx hb d_N_wholeSize_0 rfl (lv_at hl 0 rfl) ?_
  refine xr_get hx hb hts (xmu uws_N) hown hw h1 rfl (by decide) (hts _ (xm w_87)) (fun _ h9 => h9) d_N_wholeSize_1 ?_
  exact xr_iret F rfl hw d_N_wholeSize_4
set_option maxRecDepth 100000 in
set_option maxHeartbeats 4000000 in
theorem c_N_asksFor (l : Launch) (Z : XZ) (x0 : Nat) (x1 : Int32) (u : PS) (K : Int32 → PS → Prop) (k : p_N_asksFor x0 x1 u K) : ∃ (rv : Option Value) (u1 : PS), (kI K) rv u1 ∧ XMet l Z i_N_asksFor [.ref x0, .int x1] u rv u1 := by
  refine x_met (by decide) rfl (Nat.le_of_ble_eq_true rfl) ?_
  show XN l Z i_N_asksFor u (kI K) u 0 [(0, .ref x0), (1, .int x1)] []
  unfold p_N_asksFor at k
  obtain ⟨z_3, h1, k⟩ := k
  obtain ⟨z_4, h2, k⟩ := k
  have hle_u : x_le u u := x_le.rf u
  refine ⟨some (.int z_4), u, ⟨z_4, rfl, k⟩, hle_u, ?_⟩
  intro p e s m args below meth c A H locs ls F hw hl
  obtain ⟨⟨hx, hb, hml, hown, hts⟩, hr, hlocks, hmn⟩ := id F
  refine lv_aload_n hx hb d_N_asksFor_0 rfl (lv_at hl 0 rfl) ?_
  refine xr_get hx hb hts (xmu uws_N) hown hw h1 rfl (by decide) (hts _ (xm w_78)) (fun _ h9 => h9) d_N_asksFor_1 ?_
  refine lv_iload_n hx hb d_N_asksFor_4 rfl (lv_at hl 1 rfl) ?_
  refine xr_iald hx hb hw h2 d_N_asksFor_5 ?_
  exact xr_iret F rfl hw d_N_asksFor_6
set_option maxRecDepth 100000 in
set_option maxHeartbeats 4000000 in
theorem c_N_lengthened (l : Launch) (Z : XZ) (x0 : Nat) (x1 : Int32) (u : PS) (K : Nat → PS → Prop) (k : p_N_lengthened x0 x1 u K) : ∃ (rv : Option Value) (u1 : PS), (kA K) rv u1 ∧ XMet l Z i_N_lengthened [.ref x0, .int x1] u rv u1 := by
  refine x_met (by decide) rfl (Nat.le_of_ble_eq_true rfl) ?_
  show XN l Z i_N_lengthened u (kA K) u 0 [(0, .ref x0), (1, .int x1)] []
  unfold p_N_lengthened at k
  obtain ⟨a_5, u_6, h1, k⟩ := k
  obtain ⟨z_7, h2, k⟩ := k
  obtain ⟨u_8, h3, k⟩ := k
  have hle_u_8 : x_le u_8 u_8 := x_le.rf u_8
  have hle_u_6 : x_le u_6 u_8 := (h3.le).tr hle_u_8
  have hle_u : x_le u u_8 := (h1.le).tr hle_u_6
  refine ⟨some (.ref a_5), u_8, ⟨a_5, rfl, k⟩, hle_u, ?_⟩
  intro p e s m args below meth c A H locs ls F hw hl
  obtain ⟨⟨hx, hb, hml, hown, hts⟩, hr, hlocks, hmn⟩ := id F
  refine lv_iload_n hx hb d_N_lengthened_0 rfl (lv_at hl 1 rfl) ?_
  refine xr_newai hx hb rfl (hts _ (xm w_51)) hw h1 hle_u_6 d_N_lengthened_1 (fun H hw => ?_)
  refine lv_astore_n (lv' := [(2, .ref a_5), (0, .ref x0), (1, .int x1)]) hx hb d_N_lengthened_3 rfl hl (by decide) rfl (fun ls hl => ?_)
  refine lv_aload_n hx hb d_N_lengthened_4 rfl (lv_at hl 1 rfl) ?_
  refine lv_iconst (v := 0) hx hb d_N_lengthened_5 (by decide) ?_
  refine lv_aload_n hx hb d_N_lengthened_6 rfl (lv_at hl 0 rfl) ?_
  refine lv_iconst (v := 0) hx hb d_N_lengthened_7 (by decide) ?_
  refine lv_aload_n hx hb d_N_lengthened_8 rfl (lv_at hl 1 rfl) ?_
  refine xr_alen hx hb hw rfl h2 d_N_lengthened_9 ?_
  refine xr_copy (rest := []) hx hb (hml.trans hl.1.symm) hown (hts _ (xm w_305)) (hts _ (xm w_307)) (hts _ (xm w_306)) (hts _ (xm w_15)) hw h3 (Nat.le_of_ble_eq_true rfl) (Nat.le_of_ble_eq_true rfl) d_N_lengthened_10 (fun H locs hw => ?_)
  refine lv_aload_n hx hb d_N_lengthened_13 rfl (lv_at hl 0 rfl) ?_
  exact xr_aret F rfl hw d_N_lengthened_14
set_option maxRecDepth 100000 in
set_option maxHeartbeats 4000000 in
theorem c_N_link (l : Launch) (Z : XZ) (x0 : Nat) (x1 : Int32) (u : PS) (K : PS → Prop) (k : p_N_link x0 x1 u K) : ∃ (rv : Option Value) (u1 : PS), (kV K) rv u1 ∧ XMet l Z i_N_link [.ref x0, .int x1] u rv u1 := by
  refine x_met (by decide) rfl (Nat.le_of_ble_eq_true rfl) ?_
  show XN l Z i_N_link u (kV K) u 0 [(0, .ref x0), (1, .int x1)] []
  unfold p_N_link at k
  obtain ⟨z_11, h1, k⟩ := k
  obtain ⟨z_12, h2, k⟩ := k
  obtain ⟨z_13, h3, k⟩ := k
  obtain ⟨y4, ey4⟩ : ∃ y9 : Int32, y9 = (((z_12 * (-1640531535 : Int32)).toUInt32 >>> (z_13.toUInt32 &&& Int32.toUInt32 31)).toInt32) := ⟨_, rfl⟩
  have k := k y4 ey4
  obtain ⟨z_14, h5, k⟩ := k
  obtain ⟨z_15, h6, k⟩ := k
  obtain ⟨z_16, h7, k⟩ := k
  obtain ⟨u_17, h8, k⟩ := k
  obtain ⟨z_18, h9, k⟩ := k
  obtain ⟨u_19, h10, k⟩ := k
  have hle_u_19 : x_le u_19 u_19 := x_le.rf u_19
  have hle_u_17 : x_le u_17 u_19 := (h10.le).tr hle_u_19
  have hle_u : x_le u u_19 := (h8.le).tr hle_u_17
  refine ⟨none, u_19, ⟨rfl, k⟩, hle_u, ?_⟩
  intro p e s m args below meth c A H locs ls F hw hl
  obtain ⟨⟨hx, hb, hml, hown, hts⟩, hr, hlocks, hmn⟩ := id F
  refine lv_aload_n hx hb d_N_link_0 rfl (lv_at hl 0 rfl) ?_
  refine xr_get hx hb hts (xmu uws_N) hown hw h1 rfl (by decide) (hts _ (xm w_72)) (fun _ h9 => h9) d_N_link_1 ?_
  refine lv_iload_n hx hb d_N_link_4 rfl (lv_at hl 1 rfl) ?_
  refine xr_iald hx hb hw h2 d_N_link_5 ?_
  refine lv_ldc (v := (-1640531535)) hx hb hown (hts _ (xm w_312)) d_N_link_6 ?_
  refine lv_imul hx hb d_N_link_8 ?_
  refine lv_aload_n hx hb d_N_link_9 rfl (lv_at hl 0 rfl) ?_
  refine xr_get hx hb hts (xmu uws_N) hown hw h3 rfl (by decide) (hts _ (xm w_83)) (fun _ h9 => h9) d_N_link_10 ?_
  refine lv_iushr hx hb d_N_link_13 rfl ?_
  refine lv_istore_n (lv' := [(2, .int y4), (0, .ref x0), (1, .int x1)]) hx hb d_N_link_14 rfl hl (by decide) (by subst ey4; rfl) (fun ls hl => ?_)
  refine lv_aload_n hx hb d_N_link_15 rfl (lv_at hl 1 rfl) ?_
  refine xr_get hx hb hts (xmu uws_N) hown hw h5 rfl (by decide) (hts _ (xm w_81)) (fun _ h9 => h9) d_N_link_16 ?_
  refine lv_iload_n hx hb d_N_link_19 rfl (lv_at hl 2 rfl) ?_
  refine lv_aload_n hx hb d_N_link_20 rfl (lv_at hl 1 rfl) ?_
  refine xr_get hx hb hts (xmu uws_N) hown hw h6 rfl (by decide) (hts _ (xm w_82)) (fun _ h9 => h9) d_N_link_21 ?_
  refine lv_iload_n hx hb d_N_link_24 rfl (lv_at hl 0 rfl) ?_
  refine xr_iald hx hb hw h7 d_N_link_25 ?_
  refine xr_iast hx hb hw h8 d_N_link_26 (fun H locs hw => ?_)
  refine lv_aload_n hx hb d_N_link_27 rfl (lv_at hl 1 rfl) ?_
  refine xr_get hx hb hts (xmu uws_N) hown hw h9 rfl (by decide) (hts _ (xm w_82)) (fun _ h9 => h9) d_N_link_28 ?_
  refine lv_iload_n hx hb d_N_link_31 rfl (lv_at hl 0 rfl) ?_
  refine lv_iload_n hx hb d_N_link_32 rfl (lv_at hl 2 rfl) ?_
  refine xr_iast hx hb hw h10 d_N_link_33 (fun H locs hw => ?_)
  exact xr_vret F rfl hw d_N_link_34
set_option maxRecDepth 100000 in
set_option maxHeartbeats 4000000 in
theorem t_N_makeRoomFor_L12 (l : Launch) (Z : XZ) (u0 : PS) {Kv : Option Value → PS → Prop} {E31 : Int32 → PS → Prop} (x0 : Nat) (x1 : Int32) (hE31 : ∀ (y2 : Int32) (v : PS), E31 y2 v → XN l Z i_N_makeRoomFor u0 Kv v 31 [(0, .ref x0), (2, .int y2)] []) : ∀ (n : Nat) (x2 : Int32) (u : PS), p_N_makeRoomFor_L12 x0 x1 E31 n x2 u → XN l Z i_N_makeRoomFor u0 Kv u 12 [(0, .ref x0), (1, .int x1), (2, .int x2)] [] := by
  intro n
  induction n with
  | zero => intro x2 u k; exact False.elim k
  | succ n ih =>
    intro x2 u k
    rw [p_N_makeRoomFor_L12] at k
    by_cases hc1 : x1 ≤ x2
    · have k := k.1 hc1
      obtain ⟨rv, v9, hK, hle_u, w9⟩ := hE31 x2 u k
      refine ⟨rv, v9, hK, hle_u, ?_⟩
      intro p e s m args below meth c A H locs ls F hw hl
      obtain ⟨⟨hx, hb, hml, hown, hts⟩, hr, hlocks, hmn⟩ := id F
      refine lv_iload_n hx hb d_N_makeRoomFor_12 rfl (lv_at hl 2 rfl) ?_
      refine lv_iload_n hx hb d_N_makeRoomFor_13 rfl (lv_at hl 1 rfl) ?_
      refine lv_icmp_ge (tgt := 31) hx hb d_N_makeRoomFor_14 (by decide) (fun _ => ?_) (fun c9 => absurd hc1 c9)
      exact w9 p e s m args below meth c A H locs ls F hw (lv_sub hl [0, 2] rfl)
    · have k := k.2 hc1
      by_cases hc2 : 16384 ≤ x2
      · have k := k.1 hc2
        obtain ⟨rv, v9, hK, hle_u, w9⟩ := hE31 x2 u k
        refine ⟨rv, v9, hK, hle_u, ?_⟩
        intro p e s m args below meth c A H locs ls F hw hl
        obtain ⟨⟨hx, hb, hml, hown, hts⟩, hr, hlocks, hmn⟩ := id F
        refine lv_iload_n hx hb d_N_makeRoomFor_12 rfl (lv_at hl 2 rfl) ?_
        refine lv_iload_n hx hb d_N_makeRoomFor_13 rfl (lv_at hl 1 rfl) ?_
        refine lv_icmp_ge (tgt := 31) hx hb d_N_makeRoomFor_14 (by decide) (fun c9 => absurd c9 hc1) (fun _ => ?_)
        refine lv_iload_n hx hb d_N_makeRoomFor_17 rfl (lv_at hl 2 rfl) ?_
        refine lv_sipush (v := 16384) hx hb d_N_makeRoomFor_18 (by decide) ?_
        refine lv_icmp_ge (tgt := 31) hx hb d_N_makeRoomFor_21 (by decide) (fun _ => ?_) (fun c9 => absurd hc2 c9)
        exact w9 p e s m args below meth c A H locs ls F hw (lv_sub hl [0, 2] rfl)
      · have k := k.2 hc2
        obtain ⟨y3, ey3⟩ : ∃ y9 : Int32, y9 = (x2 * (2 : Int32)) := ⟨_, rfl⟩
        have k := k y3 ey3
        obtain ⟨rv, v9, hK, hle_u, w9⟩ := ih y3 u k
        refine ⟨rv, v9, hK, hle_u, ?_⟩
        intro p e s m args below meth c A H locs ls F hw hl
        obtain ⟨⟨hx, hb, hml, hown, hts⟩, hr, hlocks, hmn⟩ := id F
        refine lv_iload_n hx hb d_N_makeRoomFor_12 rfl (lv_at hl 2 rfl) ?_
        refine lv_iload_n hx hb d_N_makeRoomFor_13 rfl (lv_at hl 1 rfl) ?_
        refine lv_icmp_ge (tgt := 31) hx hb d_N_makeRoomFor_14 (by decide) (fun c9 => absurd c9 hc1) (fun _ => ?_)
        refine lv_iload_n hx hb d_N_makeRoomFor_17 rfl (lv_at hl 2 rfl) ?_
        refine lv_sipush (v := 16384) hx hb d_N_makeRoomFor_18 (by decide) ?_
        refine lv_icmp_ge (tgt := 31) hx hb d_N_makeRoomFor_21 (by decide) (fun c9 => absurd c9 hc2) (fun _ => ?_)
        refine lv_iload_n hx hb d_N_makeRoomFor_24 rfl (lv_at hl 2 rfl) ?_
        refine lv_iconst (v := 2) hx hb d_N_makeRoomFor_25 (by decide) ?_
        refine lv_imul hx hb d_N_makeRoomFor_26 ?_
        refine lv_istore_n (lv' := [(2, .int y3), (0, .ref x0), (1, .int x1)]) hx hb d_N_makeRoomFor_27 rfl hl (by decide) (by subst ey3; rfl) (fun ls hl => ?_)
        refine lv_goto (tgt := 12) hx hb d_N_makeRoomFor_28 (by decide) ?_
        exact w9 p e s m args below meth c A H locs ls F hw (lv_sub hl [1, 2, 0] rfl)
set_option maxRecDepth 100000 in
set_option maxHeartbeats 4000000 in
theorem t_N_makeRoomFor_J133 (l : Launch) (Z : XZ) (u0 : PS) {Kv : Option Value → PS → Prop} {R : Int32 → PS → Prop} {E139 : PS → Prop} (x0 : Nat) (x3 : Int32) (u : PS) (hR : ∀ (y3 : Int32) (v : PS), R y3 v → XN l Z i_N_makeRoomFor u0 Kv v 111 [(0, .ref x0), (3, .int y3)] []) (hE139 : ∀ (v : PS), E139 v → XN l Z i_N_makeRoomFor u0 Kv v 139 [] []) (k : (p_N_makeRoomFor_J133 R E139 x0 x3 u)) : XN l Z i_N_makeRoomFor u0 Kv u 133 [(0, .ref x0), (3, .int x3)] [] := by
  unfold p_N_makeRoomFor_J133 at k
  obtain ⟨y1, ey1⟩ : ∃ y9 : Int32, y9 = x3 + 1 := ⟨_, rfl⟩
  have k := k y1 ey1
  obtain ⟨rv, v9, hK, hle_u, w9⟩ := hR y1 u k
  refine ⟨rv, v9, hK, hle_u, ?_⟩
  intro p e s m args below meth c A H locs ls F hw hl
  obtain ⟨⟨hx, hb, hml, hown, hts⟩, hr, hlocks, hmn⟩ := id F
  refine lv_iinc (v := y1) (lv' := [(3, .int y1), (0, .ref x0)]) hx hb d_N_makeRoomFor_133 hl (k := 1) rfl (by subst ey1; rfl) (by decide) rfl (fun ls hl => ?_)
  refine lv_goto (tgt := 111) hx hb d_N_makeRoomFor_136 (by decide) ?_
  exact w9 p e s m args below meth c A H locs ls F hw (lv_sub hl [1, 0] rfl)
set_option maxRecDepth 100000 in
set_option maxHeartbeats 4000000 in
theorem t_N_makeRoomFor_L111 (l : Launch) (Z : XZ) (u0 : PS) {Kv : Option Value → PS → Prop} {E139 : PS → Prop} (x0 : Nat) (hE139 : ∀ (v : PS), E139 v → XN l Z i_N_makeRoomFor u0 Kv v 139 [] []) : ∀ (n : Nat) (x3 : Int32) (u : PS), p_N_makeRoomFor_L111 x0 E139 n x3 u → XN l Z i_N_makeRoomFor u0 Kv u 111 [(0, .ref x0), (3, .int x3)] [] := by
  intro n
  induction n with
  | zero => intro x3 u k; exact False.elim k
  | succ n ih =>
    intro x3 u k
    rw [p_N_makeRoomFor_L111] at k
    obtain ⟨z_68, h1, k⟩ := k
    by_cases hc2 : z_68 ≤ x3
    · have k := k.1 hc2
      obtain ⟨rv, v9, hK, hle_u, w9⟩ := hE139 u k
      refine ⟨rv, v9, hK, hle_u, ?_⟩
      intro p e s m args below meth c A H locs ls F hw hl
      obtain ⟨⟨hx, hb, hml, hown, hts⟩, hr, hlocks, hmn⟩ := id F
      refine lv_iload_n hx hb d_N_makeRoomFor_111 rfl (lv_at hl 1 rfl) ?_
      refine lv_aload_n hx hb d_N_makeRoomFor_112 rfl (lv_at hl 0 rfl) ?_
      refine xr_get hx hb hts (xmu uws_N) hown hw h1 rfl (by decide) (hts _ (xm w_85)) (fun _ h9 => h9) d_N_makeRoomFor_113 ?_
      refine lv_icmp_ge (tgt := 139) hx hb d_N_makeRoomFor_116 (by decide) (fun _ => ?_) (fun c9 => absurd hc2 c9)
      exact w9 p e s m args below meth c A H locs ls F hw (lv_sub hl [] rfl)
    · have k := k.2 hc2
      obtain ⟨z_69, h3, k⟩ := k
      obtain ⟨z_70, h4, k⟩ := k
      by_cases hc5 : z_70 = 0
      · have k := k.1 hc5
        obtain ⟨rv, v9, hK, hle_u, w9⟩ := t_N_makeRoomFor_J133 l Z u0 x0 x3 u ih hE139 k
        refine ⟨rv, v9, hK, hle_u, ?_⟩
        intro p e s m args below meth c A H locs ls F hw hl
        obtain ⟨⟨hx, hb, hml, hown, hts⟩, hr, hlocks, hmn⟩ := id F
        refine lv_iload_n hx hb d_N_makeRoomFor_111 rfl (lv_at hl 1 rfl) ?_
        refine lv_aload_n hx hb d_N_makeRoomFor_112 rfl (lv_at hl 0 rfl) ?_
        refine xr_get hx hb hts (xmu uws_N) hown hw h1 rfl (by decide) (hts _ (xm w_85)) (fun _ h9 => h9) d_N_makeRoomFor_113 ?_
        refine lv_icmp_ge (tgt := 139) hx hb d_N_makeRoomFor_116 (by decide) (fun c9 => absurd c9 hc2) (fun _ => ?_)
        refine lv_aload_n hx hb d_N_makeRoomFor_119 rfl (lv_at hl 0 rfl) ?_
        refine xr_get hx hb hts (xmu uws_N) hown hw h3 rfl (by decide) (hts _ (xm w_72)) (fun _ h9 => h9) d_N_makeRoomFor_120 ?_
        refine lv_iload_n hx hb d_N_makeRoomFor_123 rfl (lv_at hl 1 rfl) ?_
        refine xr_iald hx hb hw h4 d_N_makeRoomFor_124 ?_
        refine lv_if_eq (tgt := 133) hx hb d_N_makeRoomFor_125 (by decide) (fun _ => ?_) (fun c9 => absurd hc5 c9)
        exact w9 p e s m args below meth c A H locs ls F hw (lv_sub hl [0, 1] rfl)
      · have k := k.2 hc5
        obtain ⟨h7, k⟩ := k
        obtain ⟨_, u_71, ⟨rfl, k⟩, hM6⟩ := c_N_link l Z x0 x3 u _ k
        obtain ⟨rv, v9, hK, hle_u_71, w9⟩ := t_N_makeRoomFor_J133 l Z u0 x0 x3 u_71 ih hE139 k
        have hle_u : x_le u v9 := (hM6.1).tr hle_u_71
        refine ⟨rv, v9, hK, hle_u, ?_⟩
        intro p e s m args below meth c A H locs ls F hw hl
        obtain ⟨⟨hx, hb, hml, hown, hts⟩, hr, hlocks, hmn⟩ := id F
        refine lv_iload_n hx hb d_N_makeRoomFor_111 rfl (lv_at hl 1 rfl) ?_
        refine lv_aload_n hx hb d_N_makeRoomFor_112 rfl (lv_at hl 0 rfl) ?_
        refine xr_get hx hb hts (xmu uws_N) hown hw h1 rfl (by decide) (hts _ (xm w_85)) (fun _ h9 => h9) d_N_makeRoomFor_113 ?_
        refine lv_icmp_ge (tgt := 139) hx hb d_N_makeRoomFor_116 (by decide) (fun c9 => absurd c9 hc2) (fun _ => ?_)
        refine lv_aload_n hx hb d_N_makeRoomFor_119 rfl (lv_at hl 0 rfl) ?_
        refine xr_get hx hb hts (xmu uws_N) hown hw h3 rfl (by decide) (hts _ (xm w_72)) (fun _ h9 => h9) d_N_makeRoomFor_120 ?_
        refine lv_iload_n hx hb d_N_makeRoomFor_123 rfl (lv_at hl 1 rfl) ?_
        refine xr_iald hx hb hw h4 d_N_makeRoomFor_124 ?_
        refine lv_if_eq (tgt := 133) hx hb d_N_makeRoomFor_125 (by decide) (fun c9 => absurd c9 hc5) (fun _ => ?_)
        refine lv_aload_n hx hb d_N_makeRoomFor_128 rfl (lv_at hl 0 rfl) ?_
        refine lv_iload_n hx hb d_N_makeRoomFor_129 rfl (lv_at hl 1 rfl) ?_
        refine xr_cV (As := [.int x3]) (rest := []) ⟨hx, hb, hml, hown, hts⟩ hw hM6 hle_u_71 (fun _ _ => ⟨callB_of 1 hts (xgood w_311) rfl rfl rfl (hts _ (xm w_4)) (hts _ (xm w_308)) ⟨by decide, by decide, by decide +kernel⟩ ⟨Nat.le_of_ble_eq_true rfl, Nat.le_of_ble_eq_true rfl⟩, (hts _ (xm w_310)), (hts _ (xm wp_3))⟩) (qc := (R_N, F_N, 13)) rfl rfl h7 rfl hl.1 rfl (Nat.le_of_ble_eq_true rfl) d_N_makeRoomFor_130 (fun H locs hw => ?_)
        refine W.eq (g2 := F0 m 133 ls []) rfl ?_
        exact w9 p e s m args below meth c A H locs ls F hw (lv_sub hl [0, 1] rfl)
set_option maxRecDepth 100000 in
set_option maxHeartbeats 4000000 in
theorem t_N_makeRoomFor_J31 (l : Launch) (Z : XZ) (u0 : PS) {K : PS → Prop} (x0 : Nat) (x2 : Int32) (u : PS) (k : (p_N_makeRoomFor_J31 K x0 x2 u)) : XN l Z i_N_makeRoomFor u0 (kV K) u 31 [(0, .ref x0), (2, .int x2)] [] := by
  unfold p_N_makeRoomFor_J31 at k
  obtain ⟨z_42, h1, k⟩ := k
  obtain ⟨_, u_43, ⟨r_44, rfl, k⟩, hM2⟩ := c_N_lengthened l Z z_42 x2 u _ k
  obtain ⟨u_45, h3, k⟩ := k
  obtain ⟨z_46, h4, k⟩ := k
  obtain ⟨_, u_47, ⟨r_48, rfl, k⟩, hM5⟩ := c_N_lengthened l Z z_46 x2 u_45 _ k
  obtain ⟨u_49, h6, k⟩ := k
  obtain ⟨z_50, h7, k⟩ := k
  obtain ⟨_, u_51, ⟨r_52, rfl, k⟩, hM8⟩ := c_N_lengthened l Z z_50 x2 u_49 _ k
  obtain ⟨u_53, h9, k⟩ := k
  obtain ⟨z_54, h10, k⟩ := k
  obtain ⟨_, u_55, ⟨r_56, rfl, k⟩, hM11⟩ := c_N_lengthened l Z z_54 x2 u_53 _ k
  obtain ⟨u_57, h12, k⟩ := k
  obtain ⟨z_58, h13, k⟩ := k
  obtain ⟨_, u_59, ⟨r_60, rfl, k⟩, hM14⟩ := c_N_lengthened l Z z_58 x2 u_57 _ k
  obtain ⟨u_61, h15, k⟩ := k
  obtain ⟨a_62, u_63, h16, k⟩ := k
  obtain ⟨u_64, h17, k⟩ := k
  obtain ⟨_, u_65, ⟨r_66, rfl, k⟩, hM18⟩ := c_JI_numberOfTrailingZeros l Z x2 u_64 _ k
  obtain ⟨u_67, h19, k⟩ := k
  obtain ⟨n20, k⟩ := k
  have hx22 : ∀ (v21 : PS), (K v21) → XN l Z i_N_makeRoomFor u0 (kV K) v21 139 [] [] := by
    intro v21 k
    have hle_v21 : x_le v21 v21 := x_le.rf v21
    refine ⟨none, v21, ⟨rfl, k⟩, hle_v21, ?_⟩
    intro p e s m args below meth c A H locs ls F hw hl
    obtain ⟨⟨hx, hb, hml, hown, hts⟩, hr, hlocks, hmn⟩ := id F
    exact xr_vret F rfl hw d_N_makeRoomFor_139
  obtain ⟨rv, v9, hK, hle_u_67, w9⟩ := t_N_makeRoomFor_L111 l Z u0 x0 hx22 n20 (2 : Int32) u_67 k
  have hle_u_65 : x_le u_65 v9 := (h19.le).tr hle_u_67
  have hle_u_64 : x_le u_64 v9 := (hM18.1).tr hle_u_65
  have hle_u_63 : x_le u_63 v9 := (h17.le).tr hle_u_64
  have hle_u_61 : x_le u_61 v9 := (h16.le).tr hle_u_63
  have hle_u_59 : x_le u_59 v9 := (h15.le).tr hle_u_61
  have hle_u_57 : x_le u_57 v9 := (hM14.1).tr hle_u_59
  have hle_u_55 : x_le u_55 v9 := (h12.le).tr hle_u_57
  have hle_u_53 : x_le u_53 v9 := (hM11.1).tr hle_u_55
  have hle_u_51 : x_le u_51 v9 := (h9.le).tr hle_u_53
  have hle_u_49 : x_le u_49 v9 := (hM8.1).tr hle_u_51
  have hle_u_47 : x_le u_47 v9 := (h6.le).tr hle_u_49
  have hle_u_45 : x_le u_45 v9 := (hM5.1).tr hle_u_47
  have hle_u_43 : x_le u_43 v9 := (h3.le).tr hle_u_45
  have hle_u : x_le u v9 := (hM2.1).tr hle_u_43
  refine ⟨rv, v9, hK, hle_u, ?_⟩
  intro p e s m args below meth c A H locs ls F hw hl
  obtain ⟨⟨hx, hb, hml, hown, hts⟩, hr, hlocks, hmn⟩ := id F
  refine lv_aload_n hx hb d_N_makeRoomFor_31 rfl (lv_at hl 0 rfl) ?_
  refine lv_aload_n hx hb d_N_makeRoomFor_32 rfl (lv_at hl 0 rfl) ?_
  refine xr_get hx hb hts (xmu uws_N) hown hw h1 rfl (by decide) (hts _ (xm w_72)) (fun _ h9 => h9) d_N_makeRoomFor_33 ?_
  refine lv_iload_n hx hb d_N_makeRoomFor_36 rfl (lv_at hl 1 rfl) ?_
  refine xr_cS (As := [.ref z_42, .int x2]) (rest := [.ref x0]) ⟨hx, hb, hml, hown, hts⟩ hw hM2 hle_u_43 (fun _ _ => ⟨callB_of 2 hts (xgood w_304) rfl rfl rfl (hts _ (xm w_4)) (hts _ (xm w_302)) ⟨by decide, by decide, by decide +kernel⟩ ⟨Nat.le_of_ble_eq_true rfl, Nat.le_of_ble_eq_true rfl⟩, (hts _ (xm w_303))⟩) rfl hl.1 rfl (Nat.le_of_ble_eq_true rfl) d_N_makeRoomFor_37 (fun H locs hw => ?_)
  refine W.eq (g2 := F0 m 40 ls [.ref r_44, .ref x0]) rfl ?_
  refine xr_put (ty := .array .int) hx hb hts (xmu uws_N) tyc_N tyc_N_ok nmc_N hown hw h3 rfl (by decide) (hts _ (xm w_72)) (fun _ h9 => h9) rfl (by decide +kernel) rfl rfl d_N_makeRoomFor_40 (fun H locs hw => ?_)
  refine lv_aload_n hx hb d_N_makeRoomFor_43 rfl (lv_at hl 0 rfl) ?_
  refine lv_aload_n hx hb d_N_makeRoomFor_44 rfl (lv_at hl 0 rfl) ?_
  refine xr_get hx hb hts (xmu uws_N) hown hw h4 rfl (by decide) (hts _ (xm w_74)) (fun _ h9 => h9) d_N_makeRoomFor_45 ?_
  refine lv_iload_n hx hb d_N_makeRoomFor_48 rfl (lv_at hl 1 rfl) ?_
  refine xr_cS (As := [.ref z_46, .int x2]) (rest := [.ref x0]) ⟨hx, hb, hml, hown, hts⟩ hw hM5 hle_u_47 (fun _ _ => ⟨callB_of 2 hts (xgood w_304) rfl rfl rfl (hts _ (xm w_4)) (hts _ (xm w_302)) ⟨by decide, by decide, by decide +kernel⟩ ⟨Nat.le_of_ble_eq_true rfl, Nat.le_of_ble_eq_true rfl⟩, (hts _ (xm w_303))⟩) rfl hl.1 rfl (Nat.le_of_ble_eq_true rfl) d_N_makeRoomFor_49 (fun H locs hw => ?_)
  refine W.eq (g2 := F0 m 52 ls [.ref r_48, .ref x0]) rfl ?_
  refine xr_put (ty := .array .int) hx hb hts (xmu uws_N) tyc_N tyc_N_ok nmc_N hown hw h6 rfl (by decide) (hts _ (xm w_74)) (fun _ h9 => h9) rfl (by decide +kernel) rfl rfl d_N_makeRoomFor_52 (fun H locs hw => ?_)
  refine lv_aload_n hx hb d_N_makeRoomFor_55 rfl (lv_at hl 0 rfl) ?_
  refine lv_aload_n hx hb d_N_makeRoomFor_56 rfl (lv_at hl 0 rfl) ?_
  refine xr_get hx hb hts (xmu uws_N) hown hw h7 rfl (by decide) (hts _ (xm w_80)) (fun _ h9 => h9) d_N_makeRoomFor_57 ?_
  refine lv_iload_n hx hb d_N_makeRoomFor_60 rfl (lv_at hl 1 rfl) ?_
  refine xr_cS (As := [.ref z_50, .int x2]) (rest := [.ref x0]) ⟨hx, hb, hml, hown, hts⟩ hw hM8 hle_u_51 (fun _ _ => ⟨callB_of 2 hts (xgood w_304) rfl rfl rfl (hts _ (xm w_4)) (hts _ (xm w_302)) ⟨by decide, by decide, by decide +kernel⟩ ⟨Nat.le_of_ble_eq_true rfl, Nat.le_of_ble_eq_true rfl⟩, (hts _ (xm w_303))⟩) rfl hl.1 rfl (Nat.le_of_ble_eq_true rfl) d_N_makeRoomFor_61 (fun H locs hw => ?_)
  refine W.eq (g2 := F0 m 64 ls [.ref r_52, .ref x0]) rfl ?_
  refine xr_put (ty := .array .int) hx hb hts (xmu uws_N) tyc_N tyc_N_ok nmc_N hown hw h9 rfl (by decide) (hts _ (xm w_80)) (fun _ h9 => h9) rfl (by decide +kernel) rfl rfl d_N_makeRoomFor_64 (fun H locs hw => ?_)
  refine lv_aload_n hx hb d_N_makeRoomFor_67 rfl (lv_at hl 0 rfl) ?_
  refine lv_aload_n hx hb d_N_makeRoomFor_68 rfl (lv_at hl 0 rfl) ?_
  refine xr_get hx hb hts (xmu uws_N) hown hw h10 rfl (by decide) (hts _ (xm w_81)) (fun _ h9 => h9) d_N_makeRoomFor_69 ?_
  refine lv_iload_n hx hb d_N_makeRoomFor_72 rfl (lv_at hl 1 rfl) ?_
  refine xr_cS (As := [.ref z_54, .int x2]) (rest := [.ref x0]) ⟨hx, hb, hml, hown, hts⟩ hw hM11 hle_u_55 (fun _ _ => ⟨callB_of 2 hts (xgood w_304) rfl rfl rfl (hts _ (xm w_4)) (hts _ (xm w_302)) ⟨by decide, by decide, by decide +kernel⟩ ⟨Nat.le_of_ble_eq_true rfl, Nat.le_of_ble_eq_true rfl⟩, (hts _ (xm w_303))⟩) rfl hl.1 rfl (Nat.le_of_ble_eq_true rfl) d_N_makeRoomFor_73 (fun H locs hw => ?_)
  refine W.eq (g2 := F0 m 76 ls [.ref r_56, .ref x0]) rfl ?_
  refine xr_put (ty := .array .int) hx hb hts (xmu uws_N) tyc_N tyc_N_ok nmc_N hown hw h12 rfl (by decide) (hts _ (xm w_81)) (fun _ h9 => h9) rfl (by decide +kernel) rfl rfl d_N_makeRoomFor_76 (fun H locs hw => ?_)
  refine lv_aload_n hx hb d_N_makeRoomFor_79 rfl (lv_at hl 0 rfl) ?_
  refine lv_aload_n hx hb d_N_makeRoomFor_80 rfl (lv_at hl 0 rfl) ?_
  refine xr_get hx hb hts (xmu uws_N) hown hw h13 rfl (by decide) (hts _ (xm w_88)) (fun _ h9 => h9) d_N_makeRoomFor_81 ?_
  refine lv_iload_n hx hb d_N_makeRoomFor_84 rfl (lv_at hl 1 rfl) ?_
  refine xr_cS (As := [.ref z_58, .int x2]) (rest := [.ref x0]) ⟨hx, hb, hml, hown, hts⟩ hw hM14 hle_u_59 (fun _ _ => ⟨callB_of 2 hts (xgood w_304) rfl rfl rfl (hts _ (xm w_4)) (hts _ (xm w_302)) ⟨by decide, by decide, by decide +kernel⟩ ⟨Nat.le_of_ble_eq_true rfl, Nat.le_of_ble_eq_true rfl⟩, (hts _ (xm w_303))⟩) rfl hl.1 rfl (Nat.le_of_ble_eq_true rfl) d_N_makeRoomFor_85 (fun H locs hw => ?_)
  refine W.eq (g2 := F0 m 88 ls [.ref r_60, .ref x0]) rfl ?_
  refine xr_put (ty := .array .int) hx hb hts (xmu uws_N) tyc_N tyc_N_ok nmc_N hown hw h15 rfl (by decide) (hts _ (xm w_88)) (fun _ h9 => h9) rfl (by decide +kernel) rfl rfl d_N_makeRoomFor_88 (fun H locs hw => ?_)
  refine lv_aload_n hx hb d_N_makeRoomFor_91 rfl (lv_at hl 0 rfl) ?_
  refine lv_iload_n hx hb d_N_makeRoomFor_92 rfl (lv_at hl 1 rfl) ?_
  refine xr_newai hx hb rfl (hts _ (xm w_51)) hw h16 hle_u_63 d_N_makeRoomFor_93 (fun H hw => ?_)
  refine xr_put (ty := .array .int) hx hb hts (xmu uws_N) tyc_N tyc_N_ok nmc_N hown hw h17 rfl (by decide) (hts _ (xm w_82)) (fun _ h9 => h9) rfl (by decide +kernel) rfl rfl d_N_makeRoomFor_95 (fun H locs hw => ?_)
  refine lv_aload_n hx hb d_N_makeRoomFor_98 rfl (lv_at hl 0 rfl) ?_
  refine lv_bipush (v := 32) hx hb d_N_makeRoomFor_99 (by decide) ?_
  refine lv_iload_n hx hb d_N_makeRoomFor_101 rfl (lv_at hl 1 rfl) ?_
  refine xr_cS (As := [.int x2]) (rest := [.int 32, .ref x0]) ⟨hx, hb, hml, hown, hts⟩ hw hM18 hle_u_65 (fun _ _ => ⟨callB_of 1 hts (xgood w_68) rfl rfl rfl (hts _ (xm w_5)) (hts _ (xm w_66)) ⟨by decide, by decide, by decide +kernel⟩ ⟨Nat.le_of_ble_eq_true rfl, Nat.le_of_ble_eq_true rfl⟩, (hts _ (xm w_67))⟩) rfl hl.1 rfl (Nat.le_of_ble_eq_true rfl) d_N_makeRoomFor_102 (fun H locs hw => ?_)
  refine W.eq (g2 := F0 m 105 ls [.int r_66, .int 32, .ref x0]) rfl ?_
  refine lv_isub hx hb d_N_makeRoomFor_105 ?_
  refine xr_put (ty := .int) hx hb hts (xmu uws_N) tyc_N tyc_N_ok nmc_N hown hw h19 rfl (by decide) (hts _ (xm w_83)) (fun _ h9 => h9) rfl (by decide +kernel) rfl rfl d_N_makeRoomFor_106 (fun H locs hw => ?_)
  refine lv_iconst (v := 2) hx hb d_N_makeRoomFor_109 (by decide) ?_
  refine lv_istore_n (lv' := [(3, .int 2), (0, .ref x0), (2, .int x2)]) hx hb d_N_makeRoomFor_110 rfl hl (by decide) rfl (fun ls hl => ?_)
  exact w9 p e s m args below meth c A H locs ls F hw (lv_sub hl [1, 0] rfl)
set_option maxRecDepth 100000 in
set_option maxHeartbeats 4000000 in
theorem c_N_makeRoomFor (l : Launch) (Z : XZ) (x0 : Nat) (x1 : Int32) (u : PS) (K : PS → Prop) (k : p_N_makeRoomFor x0 x1 u K) : ∃ (rv : Option Value) (u1 : PS), (kV K) rv u1 ∧ XMet l Z i_N_makeRoomFor [.ref x0, .int x1] u rv u1 := by
  refine x_met (by decide) rfl (Nat.le_of_ble_eq_true rfl) ?_
  show XN l Z i_N_makeRoomFor u (kV K) u 0 [(0, .ref x0), (1, .int x1)] []
  unfold p_N_makeRoomFor at k
  obtain ⟨z_40, h1, k⟩ := k
  obtain ⟨z_41, h2, k⟩ := k
  by_cases hc3 : z_41 < x1
  · have k := k.1 hc3
    obtain ⟨n4, k⟩ := k
    have hx7 : ∀ (y2_5 : Int32) (v6 : PS), (p_N_makeRoomFor_J31 K x0 y2_5 v6) → XN l Z i_N_makeRoomFor u (kV K) v6 31 [(0, .ref x0), (2, .int y2_5)] [] := by
      intro y2_5 v6 k
      obtain ⟨rv, v9, hK, hle_v6, w9⟩ := t_N_makeRoomFor_J31 l Z u x0 y2_5 v6 k
      refine ⟨rv, v9, hK, hle_v6, ?_⟩
      intro p e s m args below meth c A H locs ls F hw hl
      obtain ⟨⟨hx, hb, hml, hown, hts⟩, hr, hlocks, hmn⟩ := id F
      exact w9 p e s m args below meth c A H locs ls F hw (lv_sub hl [0, 1] rfl)
    obtain ⟨rv, v9, hK, hle_u, w9⟩ := t_N_makeRoomFor_L12 l Z u x0 x1 hx7 n4 z_41 u k
    refine ⟨rv, v9, hK, hle_u, ?_⟩
    intro p e s m args below meth c A H locs ls F hw hl
    obtain ⟨⟨hx, hb, hml, hown, hts⟩, hr, hlocks, hmn⟩ := id F
    refine lv_aload_n hx hb d_N_makeRoomFor_0 rfl (lv_at hl 0 rfl) ?_
    refine xr_get hx hb hts (xmu uws_N) hown hw h1 rfl (by decide) (hts _ (xm w_72)) (fun _ h9 => h9) d_N_makeRoomFor_1 ?_
    refine xr_alen hx hb hw rfl h2 d_N_makeRoomFor_4 ?_
    refine lv_istore_n (lv' := [(2, .int z_41), (0, .ref x0), (1, .int x1)]) hx hb d_N_makeRoomFor_5 rfl hl (by decide) rfl (fun ls hl => ?_)
    refine lv_iload_n hx hb d_N_makeRoomFor_6 rfl (lv_at hl 2 rfl) ?_
    refine lv_iload_n hx hb d_N_makeRoomFor_7 rfl (lv_at hl 0 rfl) ?_
    refine lv_icmp_gt (tgt := 12) hx hb d_N_makeRoomFor_8 (by decide) (fun _ => ?_) (fun c9 => absurd hc3 c9)
    exact w9 p e s m args below meth c A H locs ls F hw (lv_sub hl [1, 2, 0] rfl)
  · have k := k.2 hc3
    have hle_u : x_le u u := x_le.rf u
    refine ⟨none, u, ⟨rfl, k⟩, hle_u, ?_⟩
    intro p e s m args below meth c A H locs ls F hw hl
    obtain ⟨⟨hx, hb, hml, hown, hts⟩, hr, hlocks, hmn⟩ := id F
    refine lv_aload_n hx hb d_N_makeRoomFor_0 rfl (lv_at hl 0 rfl) ?_
    refine xr_get hx hb hts (xmu uws_N) hown hw h1 rfl (by decide) (hts _ (xm w_72)) (fun _ h9 => h9) d_N_makeRoomFor_1 ?_
    refine xr_alen hx hb hw rfl h2 d_N_makeRoomFor_4 ?_
    refine lv_istore_n (lv' := [(2, .int z_41), (0, .ref x0), (1, .int x1)]) hx hb d_N_makeRoomFor_5 rfl hl (by decide) rfl (fun ls hl => ?_)
    refine lv_iload_n hx hb d_N_makeRoomFor_6 rfl (lv_at hl 2 rfl) ?_
    refine lv_iload_n hx hb d_N_makeRoomFor_7 rfl (lv_at hl 0 rfl) ?_
    refine lv_icmp_gt (tgt := 12) hx hb d_N_makeRoomFor_8 (by decide) (fun c9 => absurd c9 hc3) (fun _ => ?_)
    exact xr_vret F rfl hw d_N_makeRoomFor_11
set_option maxRecDepth 100000 in
set_option maxHeartbeats 4000000 in
theorem t_N_found_L17 (l : Launch) (Z : XZ) (u0 : PS) {Kv : Option Value → PS → Prop} {E38 : Int32 → PS → Prop} {E53 : PS → Prop} (x0 : Nat) (x1 : Int32) (hE38 : ∀ (y2 : Int32) (v : PS), E38 y2 v → XN l Z i_N_found u0 Kv v 38 [(2, .int y2)] []) (hE53 : ∀ (v : PS), E53 v → XN l Z i_N_found u0 Kv v 53 [] []) : ∀ (n : Nat) (x2 : Int32) (x3 : Int32) (u : PS), p_N_found_L17 x0 x1 E38 E53 n x2 x3 u → XN l Z i_N_found u0 Kv u 17 [(0, .ref x0), (1, .int x1), (2, .int x2), (3, .int x3)] [] := by
  intro n
  induction n with
  | zero => intro x2 x3 u k; exact False.elim k
  | succ n ih =>
    intro x2 x3 u k
    rw [p_N_found_L17] at k
    by_cases hc1 : x2 = 0
    · have k := k.1 hc1
      obtain ⟨rv, v9, hK, hle_u, w9⟩ := hE53 u k
      refine ⟨rv, v9, hK, hle_u, ?_⟩
      intro p e s m args below meth c A H locs ls F hw hl
      obtain ⟨⟨hx, hb, hml, hown, hts⟩, hr, hlocks, hmn⟩ := id F
      refine lv_iload_n hx hb d_N_found_17 rfl (lv_at hl 2 rfl) ?_
      refine lv_if_eq (tgt := 53) hx hb d_N_found_18 (by decide) (fun _ => ?_) (fun c9 => absurd hc1 c9)
      exact w9 p e s m args below meth c A H locs ls F hw (lv_sub hl [] rfl)
    · have k := k.2 hc1
      by_cases hc2 : 16384 ≤ x3
      · have k := k.1 hc2
        obtain ⟨rv, v9, hK, hle_u, w9⟩ := hE53 u k
        refine ⟨rv, v9, hK, hle_u, ?_⟩
        intro p e s m args below meth c A H locs ls F hw hl
        obtain ⟨⟨hx, hb, hml, hown, hts⟩, hr, hlocks, hmn⟩ := id F
        refine lv_iload_n hx hb d_N_found_17 rfl (lv_at hl 2 rfl) ?_
        refine lv_if_eq (tgt := 53) hx hb d_N_found_18 (by decide) (fun c9 => absurd c9 hc1) (fun _ => ?_)
        refine lv_iload_n hx hb d_N_found_21 rfl (lv_at hl 3 rfl) ?_
        refine lv_sipush (v := 16384) hx hb d_N_found_22 (by decide) ?_
        refine lv_icmp_ge (tgt := 53) hx hb d_N_found_25 (by decide) (fun _ => ?_) (fun c9 => absurd hc2 c9)
        exact w9 p e s m args below meth c A H locs ls F hw (lv_sub hl [] rfl)
      · have k := k.2 hc2
        obtain ⟨z_16, h3, k⟩ := k
        obtain ⟨z_17, h4, k⟩ := k
        by_cases hc5 : z_17 = x1
        · have k := k.2 hc5
          obtain ⟨rv, v9, hK, hle_u, w9⟩ := hE38 x2 u k
          refine ⟨rv, v9, hK, hle_u, ?_⟩
          intro p e s m args below meth c A H locs ls F hw hl
          obtain ⟨⟨hx, hb, hml, hown, hts⟩, hr, hlocks, hmn⟩ := id F
          refine lv_iload_n hx hb d_N_found_17 rfl (lv_at hl 2 rfl) ?_
          refine lv_if_eq (tgt := 53) hx hb d_N_found_18 (by decide) (fun c9 => absurd c9 hc1) (fun _ => ?_)
          refine lv_iload_n hx hb d_N_found_21 rfl (lv_at hl 3 rfl) ?_
          refine lv_sipush (v := 16384) hx hb d_N_found_22 (by decide) ?_
          refine lv_icmp_ge (tgt := 53) hx hb d_N_found_25 (by decide) (fun c9 => absurd c9 hc2) (fun _ => ?_)
          refine lv_aload_n hx hb d_N_found_28 rfl (lv_at hl 0 rfl) ?_
          refine xr_get hx hb hts (xmu uws_N) hown hw h3 rfl (by decide) (hts _ (xm w_72)) (fun _ h9 => h9) d_N_found_29 ?_
          refine lv_iload_n hx hb d_N_found_32 rfl (lv_at hl 2 rfl) ?_
          refine xr_iald hx hb hw h4 d_N_found_33 ?_
          refine lv_iload_n hx hb d_N_found_34 rfl (lv_at hl 1 rfl) ?_
          refine lv_icmp_ne (tgt := 40) hx hb d_N_found_35 (by decide) (fun c9 => absurd hc5 c9) (fun _ => ?_)
          exact w9 p e s m args below meth c A H locs ls F hw (lv_sub hl [2] rfl)
        · have k := k.1 hc5
          obtain ⟨z_18, h6, k⟩ := k
          obtain ⟨z_19, h7, k⟩ := k
          obtain ⟨y8, ey8⟩ : ∃ y9 : Int32, y9 = x3 + 1 := ⟨_, rfl⟩
          have k := k y8 ey8
          obtain ⟨rv, v9, hK, hle_u, w9⟩ := ih z_19 y8 u k
          refine ⟨rv, v9, hK, hle_u, ?_⟩
          intro p e s m args below meth c A H locs ls F hw hl
          obtain ⟨⟨hx, hb, hml, hown, hts⟩, hr, hlocks, hmn⟩ := id F
          refine lv_iload_n hx hb d_N_found_17 rfl (lv_at hl 2 rfl) ?_
          refine lv_if_eq (tgt := 53) hx hb d_N_found_18 (by decide) (fun c9 => absurd c9 hc1) (fun _ => ?_)
          refine lv_iload_n hx hb d_N_found_21 rfl (lv_at hl 3 rfl) ?_
          refine lv_sipush (v := 16384) hx hb d_N_found_22 (by decide) ?_
          refine lv_icmp_ge (tgt := 53) hx hb d_N_found_25 (by decide) (fun c9 => absurd c9 hc2) (fun _ => ?_)
          refine lv_aload_n hx hb d_N_found_28 rfl (lv_at hl 0 rfl) ?_
          refine xr_get hx hb hts (xmu uws_N) hown hw h3 rfl (by decide) (hts _ (xm w_72)) (fun _ h9 => h9) d_N_found_29 ?_
          refine lv_iload_n hx hb d_N_found_32 rfl (lv_at hl 2 rfl) ?_
          refine xr_iald hx hb hw h4 d_N_found_33 ?_
          refine lv_iload_n hx hb d_N_found_34 rfl (lv_at hl 1 rfl) ?_
          refine lv_icmp_ne (tgt := 40) hx hb d_N_found_35 (by decide) (fun _ => ?_) (fun c9 => absurd c9 hc5)
          refine lv_aload_n hx hb d_N_found_40 rfl (lv_at hl 0 rfl) ?_
          refine xr_get hx hb hts (xmu uws_N) hown hw h6 rfl (by decide) (hts _ (xm w_81)) (fun _ h9 => h9) d_N_found_41 ?_
          refine lv_iload_n hx hb d_N_found_44 rfl (lv_at hl 2 rfl) ?_
          refine xr_iald hx hb hw h7 d_N_found_45 ?_
          refine lv_istore_n (lv' := [(2, .int z_19), (0, .ref x0), (1, .int x1), (3, .int x3)]) hx hb d_N_found_46 rfl hl (by decide) rfl (fun ls hl => ?_)
          refine lv_iinc (v := y8) (lv' := [(3, .int y8), (2, .int z_19), (0, .ref x0), (1, .int x1)]) hx hb d_N_found_47 hl (k := 3) rfl (by subst ey8; rfl) (by decide) rfl (fun ls hl => ?_)
          refine lv_goto (tgt := 17) hx hb d_N_found_50 (by decide) ?_
          exact w9 p e s m args below meth c A H locs ls F hw (lv_sub hl [2, 3, 1, 0] rfl)
set_option maxRecDepth 100000 in
set_option maxHeartbeats 4000000 in
theorem c_N_found (l : Launch) (Z : XZ) (x0 : Nat) (x1 : Int32) (u : PS) (K : Int32 → PS → Prop) (k : p_N_found x0 x1 u K) : ∃ (rv : Option Value) (u1 : PS), (kI K) rv u1 ∧ XMet l Z i_N_found [.ref x0, .int x1] u rv u1 := by
  refine x_met (by decide) rfl (Nat.le_of_ble_eq_true rfl) ?_
  show XN l Z i_N_found u (kI K) u 0 [(0, .ref x0), (1, .int x1)] []
  unfold p_N_found at k
  obtain ⟨z_13, h1, k⟩ := k
  obtain ⟨z_14, h2, k⟩ := k
  obtain ⟨z_15, h3, k⟩ := k
  obtain ⟨n4, k⟩ := k
  have hx7 : ∀ (y2_5 : Int32) (v6 : PS), (K y2_5 v6) → XN l Z i_N_found u (kI K) v6 38 [(2, .int y2_5)] [] := by
    intro y2_5 v6 k
    have hle_v6 : x_le v6 v6 := x_le.rf v6
    refine ⟨some (.int y2_5), v6, ⟨y2_5, rfl, k⟩, hle_v6, ?_⟩
    intro p e s m args below meth c A H locs ls F hw hl
    obtain ⟨⟨hx, hb, hml, hown, hts⟩, hr, hlocks, hmn⟩ := id F
    refine lv_iload_n hx hb d_N_found_38 rfl (lv_at hl 0 rfl) ?_
    exact xr_iret F rfl hw d_N_found_39
  have hx9 : ∀ (v8 : PS), (K (0 : Int32) v8) → XN l Z i_N_found u (kI K) v8 53 [] [] := by
    intro v8 k
    have hle_v8 : x_le v8 v8 := x_le.rf v8
    refine ⟨some (.int 0), v8, ⟨(0 : Int32), rfl, k⟩, hle_v8, ?_⟩
    intro p e s m args below meth c A H locs ls F hw hl
    obtain ⟨⟨hx, hb, hml, hown, hts⟩, hr, hlocks, hmn⟩ := id F
    refine lv_iconst (v := 0) hx hb d_N_found_53 (by decide) ?_
    exact xr_iret F rfl hw d_N_found_54
  obtain ⟨rv, v9, hK, hle_u, w9⟩ := t_N_found_L17 l Z u x0 x1 hx7 hx9 n4 z_15 (0 : Int32) u k
  refine ⟨rv, v9, hK, hle_u, ?_⟩
  intro p e s m args below meth c A H locs ls F hw hl
  obtain ⟨⟨hx, hb, hml, hown, hts⟩, hr, hlocks, hmn⟩ := id F
  refine lv_aload_n hx hb d_N_found_0 rfl (lv_at hl 0 rfl) ?_
  refine xr_get hx hb hts (xmu uws_N) hown hw h1 rfl (by decide) (hts _ (xm w_82)) (fun _ h9 => h9) d_N_found_1 ?_
  refine lv_iload_n hx hb d_N_found_4 rfl (lv_at hl 1 rfl) ?_
  refine lv_ldc (v := (-1640531535)) hx hb hown (hts _ (xm w_312)) d_N_found_5 ?_
  refine lv_imul hx hb d_N_found_7 ?_
  refine lv_aload_n hx hb d_N_found_8 rfl (lv_at hl 0 rfl) ?_
  refine xr_get hx hb hts (xmu uws_N) hown hw h2 rfl (by decide) (hts _ (xm w_83)) (fun _ h9 => h9) d_N_found_9 ?_
  refine lv_iushr hx hb d_N_found_12 rfl ?_
  refine xr_iald hx hb hw h3 d_N_found_13 ?_
  refine lv_istore_n (lv' := [(2, .int z_15), (0, .ref x0), (1, .int x1)]) hx hb d_N_found_14 rfl hl (by decide) rfl (fun ls hl => ?_)
  refine lv_iconst (v := 0) hx hb d_N_found_15 (by decide) ?_
  refine lv_istore_n (lv' := [(3, .int 0), (2, .int z_15), (0, .ref x0), (1, .int x1)]) hx hb d_N_found_16 rfl hl (by decide) rfl (fun ls hl => ?_)
  exact w9 p e s m args below meth c A H locs ls F hw (lv_sub hl [2, 3, 1, 0] rfl)
set_option maxRecDepth 100000 in
set_option maxHeartbeats 4000000 in
theorem t_N_enlist_J47 (l : Launch) (Z : XZ) (u0 : PS) {K : PS → Prop} (x0 : Nat) (x1 : Int32) (x2 : Int32) (x3 : Int32) (u : PS) (k : (p_N_enlist_J47 K x0 x1 x2 x3 u)) : XN l Z i_N_enlist u0 (kV K) u 47 [(0, .ref x0), (1, .int x1), (2, .int x2), (3, .int x3)] [] := by
  unfold p_N_enlist_J47 at k
  obtain ⟨z_25, h1, k⟩ := k
  obtain ⟨z_26, h2, k⟩ := k
  obtain ⟨u_27, h3, k⟩ := k
  obtain ⟨z_28, h4, k⟩ := k
  obtain ⟨u_29, h5, k⟩ := k
  obtain ⟨z_30, h6, k⟩ := k
  obtain ⟨u_31, h7, k⟩ := k
  have hle_u_31 : x_le u_31 u_31 := x_le.rf u_31
  have hle_u_29 : x_le u_29 u_31 := (h7.le).tr hle_u_31
  have hle_u_27 : x_le u_27 u_31 := (h5.le).tr hle_u_29
  have hle_u : x_le u u_31 := (h3.le).tr hle_u_27
  refine ⟨none, u_31, ⟨rfl, k⟩, hle_u, ?_⟩
  intro p e s m args below meth c A H locs ls F hw hl
  obtain ⟨⟨hx, hb, hml, hown, hts⟩, hr, hlocks, hmn⟩ := id F
  refine lv_aload_n hx hb d_N_enlist_47 rfl (lv_at hl 0 rfl) ?_
  refine xr_get hx hb hts (xmu uws_N) hown hw h1 rfl (by decide) (hts _ (xm w_76)) (fun _ h9 => h9) d_N_enlist_48 ?_
  refine lv_iload_n hx hb d_N_enlist_51 rfl (lv_at hl 2 rfl) ?_
  refine xr_aald hx hb hw rfl h2 d_N_enlist_52 ?_
  refine lv_iload_n hx hb d_N_enlist_53 rfl (lv_at hl 3 rfl) ?_
  refine lv_iload_n hx hb d_N_enlist_54 rfl (lv_at hl 1 rfl) ?_
  refine xr_iast hx hb hw h3 d_N_enlist_55 (fun H locs hw => ?_)
  refine lv_aload_n hx hb d_N_enlist_56 rfl (lv_at hl 0 rfl) ?_
  refine xr_get hx hb hts (xmu uws_N) hown hw h4 rfl (by decide) (hts _ (xm w_80)) (fun _ h9 => h9) d_N_enlist_57 ?_
  refine lv_iload_n hx hb d_N_enlist_60 rfl (lv_at hl 1 rfl) ?_
  refine lv_iload_n hx hb d_N_enlist_61 rfl (lv_at hl 3 rfl) ?_
  refine xr_iast hx hb hw h5 d_N_enlist_62 (fun H locs hw => ?_)
  refine lv_aload_n hx hb d_N_enlist_63 rfl (lv_at hl 0 rfl) ?_
  refine xr_get hx hb hts (xmu uws_N) hown hw h6 rfl (by decide) (hts _ (xm w_78)) (fun _ h9 => h9) d_N_enlist_64 ?_
  refine lv_iload_n hx hb d_N_enlist_67 rfl (lv_at hl 2 rfl) ?_
  refine lv_iload_n hx hb d_N_enlist_68 rfl (lv_at hl 3 rfl) ?_
  refine lv_iconst (v := 1) hx hb d_N_enlist_69 (by decide) ?_
  refine lv_iadd hx hb d_N_enlist_70 ?_
  refine xr_iast hx hb hw h7 d_N_enlist_71 (fun H locs hw => ?_)
  exact xr_vret F rfl hw d_N_enlist_72
set_option maxRecDepth 100000 in
set_option maxHeartbeats 4000000 in
theorem c_N_enlist (l : Launch) (Z : XZ) (x0 : Nat) (x1 : Int32) (x2 : Int32) (u : PS) (K : PS → Prop) (k : p_N_enlist x0 x1 x2 u K) : ∃ (rv : Option Value) (u1 : PS), (kV K) rv u1 ∧ XMet l Z i_N_enlist [.ref x0, .int x1, .int x2] u rv u1 := by
  refine x_met (by decide) rfl (Nat.le_of_ble_eq_true rfl) ?_
  show XN l Z i_N_enlist u (kV K) u 0 [(0, .ref x0), (1, .int x1), (2, .int x2)] []
  unfold p_N_enlist at k
  obtain ⟨z_20, h1, k⟩ := k
  obtain ⟨z_21, h2, k⟩ := k
  obtain ⟨z_22, h3, k⟩ := k
  obtain ⟨z_23, h4, k⟩ := k
  obtain ⟨z_24, h5, k⟩ := k
  by_cases hc6 : z_21 < z_24
  · have k := k.1 hc6
    obtain ⟨rv, v9, hK, hle_u, w9⟩ := t_N_enlist_J47 l Z u x0 x1 x2 z_21 u k
    refine ⟨rv, v9, hK, hle_u, ?_⟩
    intro p e s m args below meth c A H locs ls F hw hl
    obtain ⟨⟨hx, hb, hml, hown, hts⟩, hr, hlocks, hmn⟩ := id F
    refine lv_aload_n hx hb d_N_enlist_0 rfl (lv_at hl 0 rfl) ?_
    refine xr_get hx hb hts (xmu uws_N) hown hw h1 rfl (by decide) (hts _ (xm w_78)) (fun _ h9 => h9) d_N_enlist_1 ?_
    refine lv_iload_n hx hb d_N_enlist_4 rfl (lv_at hl 2 rfl) ?_
    refine xr_iald hx hb hw h2 d_N_enlist_5 ?_
    refine lv_istore_n (lv' := [(3, .int z_21), (0, .ref x0), (1, .int x1), (2, .int x2)]) hx hb d_N_enlist_6 rfl hl (by decide) rfl (fun ls hl => ?_)
    refine lv_iload_n hx hb d_N_enlist_7 rfl (lv_at hl 0 rfl) ?_
    refine lv_aload_n hx hb d_N_enlist_8 rfl (lv_at hl 1 rfl) ?_
    refine xr_get hx hb hts (xmu uws_N) hown hw h3 rfl (by decide) (hts _ (xm w_76)) (fun _ h9 => h9) d_N_enlist_9 ?_
    refine lv_iload_n hx hb d_N_enlist_12 rfl (lv_at hl 3 rfl) ?_
    refine xr_aald hx hb hw rfl h4 d_N_enlist_13 ?_
    refine xr_alen hx hb hw rfl h5 d_N_enlist_14 ?_
    refine lv_icmp_lt (tgt := 47) hx hb d_N_enlist_15 (by decide) (fun _ => ?_) (fun c9 => absurd hc6 c9)
    exact w9 p e s m args below meth c A H locs ls F hw (lv_sub hl [1, 2, 3, 0] rfl)
  · have k := k.2 hc6
    obtain ⟨a_32, u_33, h7, k⟩ := k
    obtain ⟨z_34, h8, k⟩ := k
    obtain ⟨z_35, h9, k⟩ := k
    obtain ⟨u_36, h10, k⟩ := k
    obtain ⟨z_37, h11, k⟩ := k
    obtain ⟨u_38, h12, k⟩ := k
    obtain ⟨rv, v9, hK, hle_u_38, w9⟩ := t_N_enlist_J47 l Z u x0 x1 x2 z_21 u_38 k
    have hle_u_36 : x_le u_36 v9 := (h12.le).tr hle_u_38
    have hle_u_33 : x_le u_33 v9 := (h10.le).tr hle_u_36
    have hle_u : x_le u v9 := (h7.le).tr hle_u_33
    refine ⟨rv, v9, hK, hle_u, ?_⟩
    intro p e s m args below meth c A H locs ls F hw hl
    obtain ⟨⟨hx, hb, hml, hown, hts⟩, hr, hlocks, hmn⟩ := id F
    refine lv_aload_n hx hb d_N_enlist_0 rfl (lv_at hl 0 rfl) ?_
    refine xr_get hx hb hts (xmu uws_N) hown hw h1 rfl (by decide) (hts _ (xm w_78)) (fun _ h9 => h9) d_N_enlist_1 ?_
    refine lv_iload_n hx hb d_N_enlist_4 rfl (lv_at hl 2 rfl) ?_
    refine xr_iald hx hb hw h2 d_N_enlist_5 ?_
    refine lv_istore_n (lv' := [(3, .int z_21), (0, .ref x0), (1, .int x1), (2, .int x2)]) hx hb d_N_enlist_6 rfl hl (by decide) rfl (fun ls hl => ?_)
    refine lv_iload_n hx hb d_N_enlist_7 rfl (lv_at hl 0 rfl) ?_
    refine lv_aload_n hx hb d_N_enlist_8 rfl (lv_at hl 1 rfl) ?_
    refine xr_get hx hb hts (xmu uws_N) hown hw h3 rfl (by decide) (hts _ (xm w_76)) (fun _ h9 => h9) d_N_enlist_9 ?_
    refine lv_iload_n hx hb d_N_enlist_12 rfl (lv_at hl 3 rfl) ?_
    refine xr_aald hx hb hw rfl h4 d_N_enlist_13 ?_
    refine xr_alen hx hb hw rfl h5 d_N_enlist_14 ?_
    refine lv_icmp_lt (tgt := 47) hx hb d_N_enlist_15 (by decide) (fun c9 => absurd c9 hc6) (fun _ => ?_)
    refine lv_iconst (v := 2) hx hb d_N_enlist_18 (by decide) ?_
    refine lv_iload_n hx hb d_N_enlist_19 rfl (lv_at hl 0 rfl) ?_
    refine lv_imul hx hb d_N_enlist_20 ?_
    refine xr_newai hx hb rfl (hts _ (xm w_51)) hw h7 hle_u_33 d_N_enlist_21 (fun H hw => ?_)
    refine lv_astore (lv' := [(4, .ref a_32), (3, .int z_21), (0, .ref x0), (1, .int x1), (2, .int x2)]) hx hb d_N_enlist_23 hl (by decide) rfl (fun ls hl => ?_)
    refine lv_aload_n hx hb d_N_enlist_25 rfl (lv_at hl 2 rfl) ?_
    refine xr_get hx hb hts (xmu uws_N) hown hw h8 rfl (by decide) (hts _ (xm w_76)) (fun _ h9 => h9) d_N_enlist_26 ?_
    refine lv_iload_n hx hb d_N_enlist_29 rfl (lv_at hl 4 rfl) ?_
    refine xr_aald hx hb hw rfl h9 d_N_enlist_30 ?_
    refine lv_iconst (v := 0) hx hb d_N_enlist_31 (by decide) ?_
    refine lv_aload hx hb d_N_enlist_32 (lv_at hl 0 rfl) ?_
    refine lv_iconst (v := 0) hx hb d_N_enlist_34 (by decide) ?_
    refine lv_iload_n hx hb d_N_enlist_35 rfl (lv_at hl 1 rfl) ?_
    refine xr_copy (rest := []) hx hb (hml.trans hl.1.symm) hown (hts _ (xm w_305)) (hts _ (xm w_307)) (hts _ (xm w_306)) (hts _ (xm w_15)) hw h10 (Nat.le_of_ble_eq_true rfl) (Nat.le_of_ble_eq_true rfl) d_N_enlist_36 (fun H locs hw => ?_)
    refine lv_aload_n hx hb d_N_enlist_39 rfl (lv_at hl 2 rfl) ?_
    refine xr_get hx hb hts (xmu uws_N) hown hw h11 rfl (by decide) (hts _ (xm w_76)) (fun _ h9 => h9) d_N_enlist_40 ?_
    refine lv_iload_n hx hb d_N_enlist_43 rfl (lv_at hl 4 rfl) ?_
    refine lv_aload hx hb d_N_enlist_44 (lv_at hl 0 rfl) ?_
    refine xr_aast hx hb hw rfl (hw.1.2 0 _ rfl).2 (hw.2.2.2.2.2.1.over wo_I _) h12 d_N_enlist_46 (fun H locs hw => ?_)
    exact w9 p e s m args below meth c A H locs ls F hw (lv_sub hl [2, 3, 4, 1] rfl)
set_option maxRecDepth 100000 in
set_option maxHeartbeats 4000000 in
theorem t_N_nodeFor_J98 (l : Launch) (Z : XZ) (u0 : PS) {K : Int32 → PS → Prop} (x0 : Nat) (x1 : Int32) (x2 : Int32) (x3 : Int32) (x4 : Int32) (x5 : Int32) (u : PS) (k : (p_N_nodeFor_J98 K x0 x1 x2 x3 x4 x5 u)) : XN l Z i_N_nodeFor u0 (kI K) u 98 [(0, .ref x0), (1, .int x1), (2, .int x2), (3, .int x3), (4, .int x4), (5, .int x5)] [] := by
  unfold p_N_nodeFor_J98 at k
  obtain ⟨z_37, h1, k⟩ := k
  obtain ⟨u_38, h2, k⟩ := k
  obtain ⟨h4, k⟩ := k
  obtain ⟨_, u_39, ⟨rfl, k⟩, hM3⟩ := c_N_link l Z x0 x5 u_38 _ k
  obtain ⟨h6, k⟩ := k
  obtain ⟨_, u_40, ⟨rfl, k⟩, hM5⟩ := c_N_enlist l Z x0 x5 x1 u_39 _ k
  obtain ⟨z_41, h7, k⟩ := k
  obtain ⟨z_42, h8, k⟩ := k
  obtain ⟨u_43, h9, k⟩ := k
  obtain ⟨z_44, h10, k⟩ := k
  obtain ⟨z_45, h11, k⟩ := k
  obtain ⟨u_46, h12, k⟩ := k
  obtain ⟨z_47, h13, k⟩ := k
  obtain ⟨u_48, h14, k⟩ := k
  have hle_u_48 : x_le u_48 u_48 := x_le.rf u_48
  have hle_u_46 : x_le u_46 u_48 := (h14.le).tr hle_u_48
  have hle_u_43 : x_le u_43 u_48 := (h12.le).tr hle_u_46
  have hle_u_40 : x_le u_40 u_48 := (h9.le).tr hle_u_43
  have hle_u_39 : x_le u_39 u_48 := (hM5.1).tr hle_u_40
  have hle_u_38 : x_le u_38 u_48 := (hM3.1).tr hle_u_39
  have hle_u : x_le u u_48 := (h2.le).tr hle_u_38
  refine ⟨some (.int x5), u_48, ⟨x5, rfl, k⟩, hle_u, ?_⟩
  intro p e s m args below meth c A H locs ls F hw hl
  obtain ⟨⟨hx, hb, hml, hown, hts⟩, hr, hlocks, hmn⟩ := id F
  refine lv_aload_n hx hb d_N_nodeFor_98 rfl (lv_at hl 0 rfl) ?_
  refine xr_get hx hb hts (xmu uws_N) hown hw h1 rfl (by decide) (hts _ (xm w_72)) (fun _ h9 => h9) d_N_nodeFor_99 ?_
  refine lv_iload hx hb d_N_nodeFor_102 (lv_at hl 5 rfl) ?_
  refine lv_iload hx hb d_N_nodeFor_104 (lv_at hl 4 rfl) ?_
  refine xr_iast hx hb hw h2 d_N_nodeFor_106 (fun H locs hw => ?_)
  refine lv_aload_n hx hb d_N_nodeFor_107 rfl (lv_at hl 0 rfl) ?_
  refine lv_iload hx hb d_N_nodeFor_108 (lv_at hl 5 rfl) ?_
  refine xr_cV (As := [.int x5]) (rest := []) ⟨hx, hb, hml, hown, hts⟩ hw hM3 hle_u_39 (fun _ _ => ⟨callB_of 1 hts (xgood w_311) rfl rfl rfl (hts _ (xm w_4)) (hts _ (xm w_308)) ⟨by decide, by decide, by decide +kernel⟩ ⟨Nat.le_of_ble_eq_true rfl, Nat.le_of_ble_eq_true rfl⟩, (hts _ (xm w_310)), (hts _ (xm wp_3))⟩) (qc := (R_N, F_N, 13)) rfl rfl h4 rfl hl.1 rfl (Nat.le_of_ble_eq_true rfl) d_N_nodeFor_110 (fun H locs hw => ?_)
  refine W.eq (g2 := F0 m 113 ls []) rfl ?_
  refine lv_aload_n hx hb d_N_nodeFor_113 rfl (lv_at hl 0 rfl) ?_
  refine lv_iload hx hb d_N_nodeFor_114 (lv_at hl 5 rfl) ?_
  refine lv_iload_n hx hb d_N_nodeFor_116 rfl (lv_at hl 1 rfl) ?_
  refine xr_cV (As := [.int x5, .int x1]) (rest := []) ⟨hx, hb, hml, hown, hts⟩ hw hM5 hle_u_40 (fun _ _ => ⟨callB_of 2 hts (xgood w_325) rfl rfl rfl (hts _ (xm w_4)) (hts _ (xm w_322)) ⟨by decide, by decide, by decide +kernel⟩ ⟨Nat.le_of_ble_eq_true rfl, Nat.le_of_ble_eq_true rfl⟩, (hts _ (xm w_324)), (hts _ (xm wp_5))⟩) (qc := (R_N, F_N, 13)) rfl rfl h6 rfl hl.1 rfl (Nat.le_of_ble_eq_true rfl) d_N_nodeFor_117 (fun H locs hw => ?_)
  refine W.eq (g2 := F0 m 120 ls []) rfl ?_
  refine lv_aload_n hx hb d_N_nodeFor_120 rfl (lv_at hl 0 rfl) ?_
  refine xr_get hx hb hts (xmu uws_N) hown hw h7 rfl (by decide) (hts _ (xm w_74)) (fun _ h9 => h9) d_N_nodeFor_121 ?_
  refine lv_iload_n hx hb d_N_nodeFor_124 rfl (lv_at hl 2 rfl) ?_
  refine lv_dup2_11 hx hb d_N_nodeFor_125 rfl rfl ?_
  refine xr_iald hx hb hw h8 d_N_nodeFor_126 ?_
  refine lv_iconst (v := 1) hx hb d_N_nodeFor_127 (by decide) ?_
  refine lv_iadd hx hb d_N_nodeFor_128 ?_
  refine xr_iast hx hb hw h9 d_N_nodeFor_129 (fun H locs hw => ?_)
  refine lv_aload_n hx hb d_N_nodeFor_130 rfl (lv_at hl 0 rfl) ?_
  refine xr_get hx hb hts (xmu uws_N) hown hw h10 rfl (by decide) (hts _ (xm w_74)) (fun _ h9 => h9) d_N_nodeFor_131 ?_
  refine lv_iload_n hx hb d_N_nodeFor_134 rfl (lv_at hl 3 rfl) ?_
  refine lv_dup2_11 hx hb d_N_nodeFor_135 rfl rfl ?_
  refine xr_iald hx hb hw h11 d_N_nodeFor_136 ?_
  refine lv_iconst (v := 1) hx hb d_N_nodeFor_137 (by decide) ?_
  refine lv_iadd hx hb d_N_nodeFor_138 ?_
  refine xr_iast hx hb hw h12 d_N_nodeFor_139 (fun H locs hw => ?_)
  refine lv_aload_n hx hb d_N_nodeFor_140 rfl (lv_at hl 0 rfl) ?_
  refine lv_dup hx hb d_N_nodeFor_141 rfl ?_
  refine xr_get hx hb hts (xmu uws_N) hown hw h13 rfl (by decide) (hts _ (xm w_87)) (fun _ h9 => h9) d_N_nodeFor_142 ?_
  refine lv_iconst (v := 1) hx hb d_N_nodeFor_145 (by decide) ?_
  refine lv_iadd hx hb d_N_nodeFor_146 ?_
  refine xr_put (ty := .int) hx hb hts (xmu uws_N) tyc_N tyc_N_ok nmc_N hown hw h14 rfl (by decide) (hts _ (xm w_87)) (fun _ h9 => h9) rfl (by decide +kernel) rfl rfl d_N_nodeFor_147 (fun H locs hw => ?_)
  refine lv_iload hx hb d_N_nodeFor_150 (lv_at hl 5 rfl) ?_
  exact xr_iret F rfl hw d_N_nodeFor_152
set_option maxRecDepth 100000 in
set_option maxHeartbeats 4000000 in
theorem t_N_nodeFor_J51 (l : Launch) (Z : XZ) (u0 : PS) {K : Int32 → PS → Prop} (x0 : Nat) (x1 : Int32) (x2 : Int32) (x3 : Int32) (x4 : Int32) (s0 : Int32) (u : PS) (k : (p_N_nodeFor_J51 K x0 x1 x2 x3 x4 s0 u)) : XN l Z i_N_nodeFor u0 (kI K) u 51 [(0, .ref x0), (1, .int x1), (2, .int x2), (3, .int x3), (4, .int x4)] [.int s0] := by
  unfold p_N_nodeFor_J51 at k
  obtain ⟨z_31, h1, k⟩ := k
  obtain ⟨z_32, h2, k⟩ := k
  by_cases hc3 : s0 < z_32
  · have k := k.1 hc3
    obtain ⟨z_33, h4, k⟩ := k
    by_cases hc5 : s0 = z_33
    · have k := k.2 hc5
      obtain ⟨z_34, h6, k⟩ := k
      obtain ⟨z_35, h7, k⟩ := k
      obtain ⟨u_36, h8, k⟩ := k
      obtain ⟨rv, v9, hK, hle_u_36, w9⟩ := t_N_nodeFor_J98 l Z u0 x0 x1 x2 x3 x4 s0 u_36 k
      have hle_u : x_le u v9 := (h8.le).tr hle_u_36
      refine ⟨rv, v9, hK, hle_u, ?_⟩
      intro p e s m args below meth c A H locs ls F hw hl
      obtain ⟨⟨hx, hb, hml, hown, hts⟩, hr, hlocks, hmn⟩ := id F
      refine lv_istore (lv' := [(5, .int s0), (0, .ref x0), (1, .int x1), (2, .int x2), (3, .int x3), (4, .int x4)]) hx hb d_N_nodeFor_51 hl (by decide) rfl (fun ls hl => ?_)
      refine lv_iload hx hb d_N_nodeFor_53 (lv_at hl 0 rfl) ?_
      refine lv_aload_n hx hb d_N_nodeFor_55 rfl (lv_at hl 1 rfl) ?_
      refine xr_get hx hb hts (xmu uws_N) hown hw h1 rfl (by decide) (hts _ (xm w_72)) (fun _ h9 => h9) d_N_nodeFor_56 ?_
      refine xr_alen hx hb hw rfl h2 d_N_nodeFor_59 ?_
      refine lv_icmp_lt (tgt := 65) hx hb d_N_nodeFor_60 (by decide) (fun _ => ?_) (fun c9 => absurd hc3 c9)
      refine lv_iload hx hb d_N_nodeFor_65 (lv_at hl 0 rfl) ?_
      refine lv_aload_n hx hb d_N_nodeFor_67 rfl (lv_at hl 1 rfl) ?_
      refine xr_get hx hb hts (xmu uws_N) hown hw h4 rfl (by decide) (hts _ (xm w_84)) (fun _ h9 => h9) d_N_nodeFor_68 ?_
      refine lv_icmp_ne (tgt := 88) hx hb d_N_nodeFor_71 (by decide) (fun c9 => absurd hc5 c9) (fun _ => ?_)
      refine lv_aload_n hx hb d_N_nodeFor_74 rfl (lv_at hl 1 rfl) ?_
      refine lv_aload_n hx hb d_N_nodeFor_75 rfl (lv_at hl 1 rfl) ?_
      refine xr_get hx hb hts (xmu uws_N) hown hw h6 rfl (by decide) (hts _ (xm w_81)) (fun _ h9 => h9) d_N_nodeFor_76 ?_
      refine lv_iload hx hb d_N_nodeFor_79 (lv_at hl 0 rfl) ?_
      refine xr_iald hx hb hw h7 d_N_nodeFor_81 ?_
      refine xr_put (ty := .int) hx hb hts (xmu uws_N) tyc_N tyc_N_ok nmc_N hown hw h8 rfl (by decide) (hts _ (xm w_84)) (fun _ h9 => h9) rfl (by decide +kernel) rfl rfl d_N_nodeFor_82 (fun H locs hw => ?_)
      refine lv_goto (tgt := 98) hx hb d_N_nodeFor_85 (by decide) ?_
      exact w9 p e s m args below meth c A H locs ls F hw (lv_sub hl [1, 2, 3, 4, 5, 0] rfl)
    · have k := k.1 hc5
      obtain ⟨z_49, h9, k⟩ := k
      obtain ⟨u_50, h10, k⟩ := k
      obtain ⟨rv, v9, hK, hle_u_50, w9⟩ := t_N_nodeFor_J98 l Z u0 x0 x1 x2 x3 x4 s0 u_50 k
      have hle_u : x_le u v9 := (h10.le).tr hle_u_50
      refine ⟨rv, v9, hK, hle_u, ?_⟩
      intro p e s m args below meth c A H locs ls F hw hl
      obtain ⟨⟨hx, hb, hml, hown, hts⟩, hr, hlocks, hmn⟩ := id F
      refine lv_istore (lv' := [(5, .int s0), (0, .ref x0), (1, .int x1), (2, .int x2), (3, .int x3), (4, .int x4)]) hx hb d_N_nodeFor_51 hl (by decide) rfl (fun ls hl => ?_)
      refine lv_iload hx hb d_N_nodeFor_53 (lv_at hl 0 rfl) ?_
      refine lv_aload_n hx hb d_N_nodeFor_55 rfl (lv_at hl 1 rfl) ?_
      refine xr_get hx hb hts (xmu uws_N) hown hw h1 rfl (by decide) (hts _ (xm w_72)) (fun _ h9 => h9) d_N_nodeFor_56 ?_
      refine xr_alen hx hb hw rfl h2 d_N_nodeFor_59 ?_
      refine lv_icmp_lt (tgt := 65) hx hb d_N_nodeFor_60 (by decide) (fun _ => ?_) (fun c9 => absurd hc3 c9)
      refine lv_iload hx hb d_N_nodeFor_65 (lv_at hl 0 rfl) ?_
      refine lv_aload_n hx hb d_N_nodeFor_67 rfl (lv_at hl 1 rfl) ?_
      refine xr_get hx hb hts (xmu uws_N) hown hw h4 rfl (by decide) (hts _ (xm w_84)) (fun _ h9 => h9) d_N_nodeFor_68 ?_
      refine lv_icmp_ne (tgt := 88) hx hb d_N_nodeFor_71 (by decide) (fun _ => ?_) (fun c9 => absurd c9 hc5)
      refine lv_aload_n hx hb d_N_nodeFor_88 rfl (lv_at hl 1 rfl) ?_
      refine lv_dup hx hb d_N_nodeFor_89 rfl ?_
      refine xr_get hx hb hts (xmu uws_N) hown hw h9 rfl (by decide) (hts _ (xm w_85)) (fun _ h9 => h9) d_N_nodeFor_90 ?_
      refine lv_iconst (v := 1) hx hb d_N_nodeFor_93 (by decide) ?_
      refine lv_iadd hx hb d_N_nodeFor_94 ?_
      refine xr_put (ty := .int) hx hb hts (xmu uws_N) tyc_N tyc_N_ok nmc_N hown hw h10 rfl (by decide) (hts _ (xm w_85)) (fun _ h9 => h9) rfl (by decide +kernel) rfl rfl d_N_nodeFor_95 (fun H locs hw => ?_)
      exact w9 p e s m args below meth c A H locs ls F hw (lv_sub hl [1, 2, 3, 4, 5, 0] rfl)
  · have k := k.2 hc3
    have hle_u : x_le u u := x_le.rf u
    refine ⟨some (.int x2), u, ⟨x2, rfl, k⟩, hle_u, ?_⟩
    intro p e s m args below meth c A H locs ls F hw hl
    obtain ⟨⟨hx, hb, hml, hown, hts⟩, hr, hlocks, hmn⟩ := id F
    refine lv_istore (lv' := [(5, .int s0), (0, .ref x0), (1, .int x1), (2, .int x2), (3, .int x3), (4, .int x4)]) hx hb d_N_nodeFor_51 hl (by decide) rfl (fun ls hl => ?_)
    refine lv_iload hx hb d_N_nodeFor_53 (lv_at hl 0 rfl) ?_
    refine lv_aload_n hx hb d_N_nodeFor_55 rfl (lv_at hl 1 rfl) ?_
    refine xr_get hx hb hts (xmu uws_N) hown hw h1 rfl (by decide) (hts _ (xm w_72)) (fun _ h9 => h9) d_N_nodeFor_56 ?_
    refine xr_alen hx hb hw rfl h2 d_N_nodeFor_59 ?_
    refine lv_icmp_lt (tgt := 65) hx hb d_N_nodeFor_60 (by decide) (fun c9 => absurd c9 hc3) (fun _ => ?_)
    refine lv_iload_n hx hb d_N_nodeFor_63 rfl (lv_at hl 3 rfl) ?_
    exact xr_iret F rfl hw d_N_nodeFor_64
set_option maxRecDepth 100000 in
set_option maxHeartbeats 4000000 in
theorem c_N_nodeFor (l : Launch) (Z : XZ) (x0 : Nat) (x1 : Int32) (x2 : Int32) (x3 : Int32) (u : PS) (K : Int32 → PS → Prop) (k : p_N_nodeFor x0 x1 x2 x3 u K) : ∃ (rv : Option Value) (u1 : PS), (kI K) rv u1 ∧ XMet l Z i_N_nodeFor [.ref x0, .int x1, .int x2, .int x3] u rv u1 := by
  refine x_met (by decide) rfl (Nat.le_of_ble_eq_true rfl) ?_
  show XN l Z i_N_nodeFor u (kI K) u 0 [(0, .ref x0), (1, .int x1), (2, .int x2), (3, .int x3)] []
  unfold p_N_nodeFor at k
  by_cases hc1 : x2 = x3
  · have k := k.2 hc1
    have hle_u : x_le u u := x_le.rf u
    refine ⟨some (.int x2), u, ⟨x2, rfl, k⟩, hle_u, ?_⟩
    intro p e s m args below meth c A H locs ls F hw hl
    obtain ⟨⟨hx, hb, hml, hown, hts⟩, hr, hlocks, hmn⟩ := id F
    refine lv_iload_n hx hb d_N_nodeFor_0 rfl (lv_at hl 2 rfl) ?_
    refine lv_iload_n hx hb d_N_nodeFor_1 rfl (lv_at hl 3 rfl) ?_
    refine lv_icmp_ne (tgt := 7) hx hb d_N_nodeFor_2 (by decide) (fun c9 => absurd hc1 c9) (fun _ => ?_)
    refine lv_iload_n hx hb d_N_nodeFor_5 rfl (lv_at hl 2 rfl) ?_
    exact xr_iret F rfl hw d_N_nodeFor_6
  · have k := k.1 hc1
    obtain ⟨y2, ey2⟩ : ∃ y9 : Int32, y9 = (((x1 <<< ((28 : Int32) &&& 31)) ||| (x2 <<< ((14 : Int32) &&& 31))) ||| x3) := ⟨_, rfl⟩
    have k := k y2 ey2
    obtain ⟨h4, k⟩ := k
    obtain ⟨_, u_27, ⟨r_28, rfl, k⟩, hM3⟩ := c_N_found l Z x0 y2 u _ k
    by_cases hc5 : r_28 = 0
    · have k := k.2 hc5
      obtain ⟨z_29, h6, k⟩ := k
      by_cases hc7 : z_29 = 0
      · have k := k.1 hc7
        obtain ⟨z_30, h8, k⟩ := k
        obtain ⟨rv, v9, hK, hle_u_27, w9⟩ := t_N_nodeFor_J51 l Z u x0 x1 x2 x3 y2 z_30 u_27 k
        have hle_u : x_le u v9 := (hM3.1).tr hle_u_27
        refine ⟨rv, v9, hK, hle_u, ?_⟩
        intro p e s m args below meth c A H locs ls F hw hl
        obtain ⟨⟨hx, hb, hml, hown, hts⟩, hr, hlocks, hmn⟩ := id F
        refine lv_iload_n hx hb d_N_nodeFor_0 rfl (lv_at hl 2 rfl) ?_
        refine lv_iload_n hx hb d_N_nodeFor_1 rfl (lv_at hl 3 rfl) ?_
        refine lv_icmp_ne (tgt := 7) hx hb d_N_nodeFor_2 (by decide) (fun _ => ?_) (fun c9 => absurd c9 hc1)
        refine lv_iload_n hx hb d_N_nodeFor_7 rfl (lv_at hl 1 rfl) ?_
        refine lv_bipush (v := 28) hx hb d_N_nodeFor_8 (by decide) ?_
        refine lv_ishl hx hb d_N_nodeFor_10 ?_
        refine lv_iload_n hx hb d_N_nodeFor_11 rfl (lv_at hl 2 rfl) ?_
        refine lv_bipush (v := 14) hx hb d_N_nodeFor_12 (by decide) ?_
        refine lv_ishl hx hb d_N_nodeFor_14 ?_
        refine lv_ior hx hb d_N_nodeFor_15 ?_
        refine lv_iload_n hx hb d_N_nodeFor_16 rfl (lv_at hl 3 rfl) ?_
        refine lv_ior hx hb d_N_nodeFor_17 ?_
        refine lv_istore (lv' := [(4, .int y2), (0, .ref x0), (1, .int x1), (2, .int x2), (3, .int x3)]) hx hb d_N_nodeFor_18 hl (by decide) (by subst ey2; rfl) (fun ls hl => ?_)
        refine lv_aload_n hx hb d_N_nodeFor_20 rfl (lv_at hl 1 rfl) ?_
        refine lv_iload hx hb d_N_nodeFor_21 (lv_at hl 0 rfl) ?_
        refine xr_cV (As := [.int y2]) (rest := []) ⟨hx, hb, hml, hown, hts⟩ hw hM3 hle_u_27 (fun _ _ => ⟨callB_of 1 hts (xgood w_321) rfl rfl rfl (hts _ (xm w_4)) (hts _ (xm w_318)) ⟨by decide, by decide, by decide +kernel⟩ ⟨Nat.le_of_ble_eq_true rfl, Nat.le_of_ble_eq_true rfl⟩, (hts _ (xm w_320)), (hts _ (xm wp_4))⟩) (qc := (R_N, F_N, 13)) rfl rfl h4 rfl hl.1 rfl (Nat.le_of_ble_eq_true rfl) d_N_nodeFor_23 (fun H locs hw => ?_)
        refine W.eq (g2 := F0 m 26 ls [.int r_28]) rfl ?_
        refine lv_istore (lv' := [(5, .int r_28), (4, .int y2), (0, .ref x0), (1, .int x1), (2, .int x2), (3, .int x3)]) hx hb d_N_nodeFor_26 hl (by decide) rfl (fun ls hl => ?_)
        refine lv_iload hx hb d_N_nodeFor_28 (lv_at hl 0 rfl) ?_
        refine lv_if_ne (tgt := 150) hx hb d_N_nodeFor_30 (by decide) (fun c9 => absurd hc5 c9) (fun _ => ?_)
        refine lv_aload_n hx hb d_N_nodeFor_33 rfl (lv_at hl 2 rfl) ?_
        refine xr_get hx hb hts (xmu uws_N) hown hw h6 rfl (by decide) (hts _ (xm w_84)) (fun _ h9 => h9) d_N_nodeFor_34 ?_
        refine lv_if_eq (tgt := 47) hx hb d_N_nodeFor_37 (by decide) (fun _ => ?_) (fun c9 => absurd hc7 c9)
        refine lv_aload_n hx hb d_N_nodeFor_47 rfl (lv_at hl 2 rfl) ?_
        refine xr_get hx hb hts (xmu uws_N) hown hw h8 rfl (by decide) (hts _ (xm w_85)) (fun _ h9 => h9) d_N_nodeFor_48 ?_
        exact w9 p e s m args below meth c A H locs ls F hw (lv_sub hl [2, 3, 4, 5, 1] rfl)
      · have k := k.2 hc7
        obtain ⟨z_51, h9, k⟩ := k
        obtain ⟨rv, v9, hK, hle_u_27, w9⟩ := t_N_nodeFor_J51 l Z u x0 x1 x2 x3 y2 z_51 u_27 k
        have hle_u : x_le u v9 := (hM3.1).tr hle_u_27
        refine ⟨rv, v9, hK, hle_u, ?_⟩
        intro p e s m args below meth c A H locs ls F hw hl
        obtain ⟨⟨hx, hb, hml, hown, hts⟩, hr, hlocks, hmn⟩ := id F
        refine lv_iload_n hx hb d_N_nodeFor_0 rfl (lv_at hl 2 rfl) ?_
        refine lv_iload_n hx hb d_N_nodeFor_1 rfl (lv_at hl 3 rfl) ?_
        refine lv_icmp_ne (tgt := 7) hx hb d_N_nodeFor_2 (by decide) (fun _ => ?_) (fun c9 => absurd c9 hc1)
        refine lv_iload_n hx hb d_N_nodeFor_7 rfl (lv_at hl 1 rfl) ?_
        refine lv_bipush (v := 28) hx hb d_N_nodeFor_8 (by decide) ?_
        refine lv_ishl hx hb d_N_nodeFor_10 ?_
        refine lv_iload_n hx hb d_N_nodeFor_11 rfl (lv_at hl 2 rfl) ?_
        refine lv_bipush (v := 14) hx hb d_N_nodeFor_12 (by decide) ?_
        refine lv_ishl hx hb d_N_nodeFor_14 ?_
        refine lv_ior hx hb d_N_nodeFor_15 ?_
        refine lv_iload_n hx hb d_N_nodeFor_16 rfl (lv_at hl 3 rfl) ?_
        refine lv_ior hx hb d_N_nodeFor_17 ?_
        refine lv_istore (lv' := [(4, .int y2), (0, .ref x0), (1, .int x1), (2, .int x2), (3, .int x3)]) hx hb d_N_nodeFor_18 hl (by decide) (by subst ey2; rfl) (fun ls hl => ?_)
        refine lv_aload_n hx hb d_N_nodeFor_20 rfl (lv_at hl 1 rfl) ?_
        refine lv_iload hx hb d_N_nodeFor_21 (lv_at hl 0 rfl) ?_
        refine xr_cV (As := [.int y2]) (rest := []) ⟨hx, hb, hml, hown, hts⟩ hw hM3 hle_u_27 (fun _ _ => ⟨callB_of 1 hts (xgood w_321) rfl rfl rfl (hts _ (xm w_4)) (hts _ (xm w_318)) ⟨by decide, by decide, by decide +kernel⟩ ⟨Nat.le_of_ble_eq_true rfl, Nat.le_of_ble_eq_true rfl⟩, (hts _ (xm w_320)), (hts _ (xm wp_4))⟩) (qc := (R_N, F_N, 13)) rfl rfl h4 rfl hl.1 rfl (Nat.le_of_ble_eq_true rfl) d_N_nodeFor_23 (fun H locs hw => ?_)
        refine W.eq (g2 := F0 m 26 ls [.int r_28]) rfl ?_
        refine lv_istore (lv' := [(5, .int r_28), (4, .int y2), (0, .ref x0), (1, .int x1), (2, .int x2), (3, .int x3)]) hx hb d_N_nodeFor_26 hl (by decide) rfl (fun ls hl => ?_)
        refine lv_iload hx hb d_N_nodeFor_28 (lv_at hl 0 rfl) ?_
        refine lv_if_ne (tgt := 150) hx hb d_N_nodeFor_30 (by decide) (fun c9 => absurd hc5 c9) (fun _ => ?_)
        refine lv_aload_n hx hb d_N_nodeFor_33 rfl (lv_at hl 2 rfl) ?_
        refine xr_get hx hb hts (xmu uws_N) hown hw h6 rfl (by decide) (hts _ (xm w_84)) (fun _ h9 => h9) d_N_nodeFor_34 ?_
        refine lv_if_eq (tgt := 47) hx hb d_N_nodeFor_37 (by decide) (fun c9 => absurd c9 hc7) (fun _ => ?_)
        refine lv_aload_n hx hb d_N_nodeFor_40 rfl (lv_at hl 2 rfl) ?_
        refine xr_get hx hb hts (xmu uws_N) hown hw h9 rfl (by decide) (hts _ (xm w_84)) (fun _ h9 => h9) d_N_nodeFor_41 ?_
        refine lv_goto (tgt := 51) hx hb d_N_nodeFor_44 (by decide) ?_
        exact w9 p e s m args below meth c A H locs ls F hw (lv_sub hl [2, 3, 4, 5, 1] rfl)
    · have k := k.1 hc5
      have hle_u_27 : x_le u_27 u_27 := x_le.rf u_27
      have hle_u : x_le u u_27 := (hM3.1).tr hle_u_27
      refine ⟨some (.int r_28), u_27, ⟨r_28, rfl, k⟩, hle_u, ?_⟩
      intro p e s m args below meth c A H locs ls F hw hl
      obtain ⟨⟨hx, hb, hml, hown, hts⟩, hr, hlocks, hmn⟩ := id F
      refine lv_iload_n hx hb d_N_nodeFor_0 rfl (lv_at hl 2 rfl) ?_
      refine lv_iload_n hx hb d_N_nodeFor_1 rfl (lv_at hl 3 rfl) ?_
      refine lv_icmp_ne (tgt := 7) hx hb d_N_nodeFor_2 (by decide) (fun _ => ?_) (fun c9 => absurd c9 hc1)
      refine lv_iload_n hx hb d_N_nodeFor_7 rfl (lv_at hl 1 rfl) ?_
      refine lv_bipush (v := 28) hx hb d_N_nodeFor_8 (by decide) ?_
      refine lv_ishl hx hb d_N_nodeFor_10 ?_
      refine lv_iload_n hx hb d_N_nodeFor_11 rfl (lv_at hl 2 rfl) ?_
      refine lv_bipush (v := 14) hx hb d_N_nodeFor_12 (by decide) ?_
      refine lv_ishl hx hb d_N_nodeFor_14 ?_
      refine lv_ior hx hb d_N_nodeFor_15 ?_
      refine lv_iload_n hx hb d_N_nodeFor_16 rfl (lv_at hl 3 rfl) ?_
      refine lv_ior hx hb d_N_nodeFor_17 ?_
      refine lv_istore (lv' := [(4, .int y2), (0, .ref x0), (1, .int x1), (2, .int x2), (3, .int x3)]) hx hb d_N_nodeFor_18 hl (by decide) (by subst ey2; rfl) (fun ls hl => ?_)
      refine lv_aload_n hx hb d_N_nodeFor_20 rfl (lv_at hl 1 rfl) ?_
      refine lv_iload hx hb d_N_nodeFor_21 (lv_at hl 0 rfl) ?_
      refine xr_cV (As := [.int y2]) (rest := []) ⟨hx, hb, hml, hown, hts⟩ hw hM3 hle_u_27 (fun _ _ => ⟨callB_of 1 hts (xgood w_321) rfl rfl rfl (hts _ (xm w_4)) (hts _ (xm w_318)) ⟨by decide, by decide, by decide +kernel⟩ ⟨Nat.le_of_ble_eq_true rfl, Nat.le_of_ble_eq_true rfl⟩, (hts _ (xm w_320)), (hts _ (xm wp_4))⟩) (qc := (R_N, F_N, 13)) rfl rfl h4 rfl hl.1 rfl (Nat.le_of_ble_eq_true rfl) d_N_nodeFor_23 (fun H locs hw => ?_)
      refine W.eq (g2 := F0 m 26 ls [.int r_28]) rfl ?_
      refine lv_istore (lv' := [(5, .int r_28), (4, .int y2), (0, .ref x0), (1, .int x1), (2, .int x2), (3, .int x3)]) hx hb d_N_nodeFor_26 hl (by decide) rfl (fun ls hl => ?_)
      refine lv_iload hx hb d_N_nodeFor_28 (lv_at hl 0 rfl) ?_
      refine lv_if_ne (tgt := 150) hx hb d_N_nodeFor_30 (by decide) (fun _ => ?_) (fun c9 => absurd c9 hc5)
      refine lv_iload hx hb d_N_nodeFor_150 (lv_at hl 0 rfl) ?_
      exact xr_iret F rfl hw d_N_nodeFor_152
set_option maxRecDepth 100000 in
set_option maxHeartbeats 4000000 in
theorem t_N_unlink_L43 (l : Launch) (Z : XZ) (u0 : PS) {Kv : Option Value → PS → Prop} {E69 : Int32 → PS → Prop} {E91 : PS → Prop} (x0 : Nat) (x1 : Int32) (hE69 : ∀ (y3 : Int32) (v : PS), E69 y3 v → XN l Z i_N_unlink u0 Kv v 69 [(0, .ref x0), (1, .int x1), (3, .int y3)] []) (hE91 : ∀ (v : PS), E91 v → XN l Z i_N_unlink u0 Kv v 91 [] []) : ∀ (n : Nat) (x3 : Int32) (x4 : Int32) (u : PS), p_N_unlink_L43 x0 x1 E69 E91 n x3 x4 u → XN l Z i_N_unlink u0 Kv u 43 [(0, .ref x0), (1, .int x1), (3, .int x3), (4, .int x4)] [] := by
  intro n
  induction n with
  | zero => intro x3 x4 u k; exact False.elim k
  | succ n ih =>
    intro x3 x4 u k
    rw [p_N_unlink_L43] at k
    by_cases hc1 : x3 = 0
    · have k := k.1 hc1
      obtain ⟨rv, v9, hK, hle_u, w9⟩ := hE91 u k
      refine ⟨rv, v9, hK, hle_u, ?_⟩
      intro p e s m args below meth c A H locs ls F hw hl
      obtain ⟨⟨hx, hb, hml, hown, hts⟩, hr, hlocks, hmn⟩ := id F
      refine lv_iload_n hx hb d_N_unlink_43 rfl (lv_at hl 2 rfl) ?_
      refine lv_if_eq (tgt := 91) hx hb d_N_unlink_44 (by decide) (fun _ => ?_) (fun c9 => absurd hc1 c9)
      exact w9 p e s m args below meth c A H locs ls F hw (lv_sub hl [] rfl)
    · have k := k.2 hc1
      by_cases hc2 : 16384 ≤ x4
      · have k := k.1 hc2
        obtain ⟨rv, v9, hK, hle_u, w9⟩ := hE91 u k
        refine ⟨rv, v9, hK, hle_u, ?_⟩
        intro p e s m args below meth c A H locs ls F hw hl
        obtain ⟨⟨hx, hb, hml, hown, hts⟩, hr, hlocks, hmn⟩ := id F
        refine lv_iload_n hx hb d_N_unlink_43 rfl (lv_at hl 2 rfl) ?_
        refine lv_if_eq (tgt := 91) hx hb d_N_unlink_44 (by decide) (fun c9 => absurd c9 hc1) (fun _ => ?_)
        refine lv_iload hx hb d_N_unlink_47 (lv_at hl 3 rfl) ?_
        refine lv_sipush (v := 16384) hx hb d_N_unlink_49 (by decide) ?_
        refine lv_icmp_ge (tgt := 91) hx hb d_N_unlink_52 (by decide) (fun _ => ?_) (fun c9 => absurd hc2 c9)
        exact w9 p e s m args below meth c A H locs ls F hw (lv_sub hl [] rfl)
      · have k := k.2 hc2
        obtain ⟨z_31, h3, k⟩ := k
        obtain ⟨z_32, h4, k⟩ := k
        by_cases hc5 : z_32 = x1
        · have k := k.2 hc5
          obtain ⟨rv, v9, hK, hle_u, w9⟩ := hE69 x3 u k
          refine ⟨rv, v9, hK, hle_u, ?_⟩
          intro p e s m args below meth c A H locs ls F hw hl
          obtain ⟨⟨hx, hb, hml, hown, hts⟩, hr, hlocks, hmn⟩ := id F
          refine lv_iload_n hx hb d_N_unlink_43 rfl (lv_at hl 2 rfl) ?_
          refine lv_if_eq (tgt := 91) hx hb d_N_unlink_44 (by decide) (fun c9 => absurd c9 hc1) (fun _ => ?_)
          refine lv_iload hx hb d_N_unlink_47 (lv_at hl 3 rfl) ?_
          refine lv_sipush (v := 16384) hx hb d_N_unlink_49 (by decide) ?_
          refine lv_icmp_ge (tgt := 91) hx hb d_N_unlink_52 (by decide) (fun c9 => absurd c9 hc2) (fun _ => ?_)
          refine lv_aload_n hx hb d_N_unlink_55 rfl (lv_at hl 0 rfl) ?_
          refine xr_get hx hb hts (xmu uws_N) hown hw h3 rfl (by decide) (hts _ (xm w_81)) (fun _ h9 => h9) d_N_unlink_56 ?_
          refine lv_iload_n hx hb d_N_unlink_59 rfl (lv_at hl 2 rfl) ?_
          refine xr_iald hx hb hw h4 d_N_unlink_60 ?_
          refine lv_istore (lv' := [(5, .int z_32), (0, .ref x0), (1, .int x1), (3, .int x3), (4, .int x4)]) hx hb d_N_unlink_61 hl (by decide) rfl (fun ls hl => ?_)
          refine lv_iload hx hb d_N_unlink_63 (lv_at hl 0 rfl) ?_
          refine lv_iload_n hx hb d_N_unlink_65 rfl (lv_at hl 2 rfl) ?_
          refine lv_icmp_ne (tgt := 82) hx hb d_N_unlink_66 (by decide) (fun c9 => absurd hc5 c9) (fun _ => ?_)
          exact w9 p e s m args below meth c A H locs ls F hw (lv_sub hl [1, 2, 3] rfl)
        · have k := k.1 hc5
          obtain ⟨y6, ey6⟩ : ∃ y9 : Int32, y9 = x4 + 1 := ⟨_, rfl⟩
          have k := k y6 ey6
          obtain ⟨rv, v9, hK, hle_u, w9⟩ := ih z_32 y6 u k
          refine ⟨rv, v9, hK, hle_u, ?_⟩
          intro p e s m args below meth c A H locs ls F hw hl
          obtain ⟨⟨hx, hb, hml, hown, hts⟩, hr, hlocks, hmn⟩ := id F
          refine lv_iload_n hx hb d_N_unlink_43 rfl (lv_at hl 2 rfl) ?_
          refine lv_if_eq (tgt := 91) hx hb d_N_unlink_44 (by decide) (fun c9 => absurd c9 hc1) (fun _ => ?_)
          refine lv_iload hx hb d_N_unlink_47 (lv_at hl 3 rfl) ?_
          refine lv_sipush (v := 16384) hx hb d_N_unlink_49 (by decide) ?_
          refine lv_icmp_ge (tgt := 91) hx hb d_N_unlink_52 (by decide) (fun c9 => absurd c9 hc2) (fun _ => ?_)
          refine lv_aload_n hx hb d_N_unlink_55 rfl (lv_at hl 0 rfl) ?_
          refine xr_get hx hb hts (xmu uws_N) hown hw h3 rfl (by decide) (hts _ (xm w_81)) (fun _ h9 => h9) d_N_unlink_56 ?_
          refine lv_iload_n hx hb d_N_unlink_59 rfl (lv_at hl 2 rfl) ?_
          refine xr_iald hx hb hw h4 d_N_unlink_60 ?_
          refine lv_istore (lv' := [(5, .int z_32), (0, .ref x0), (1, .int x1), (3, .int x3), (4, .int x4)]) hx hb d_N_unlink_61 hl (by decide) rfl (fun ls hl => ?_)
          refine lv_iload hx hb d_N_unlink_63 (lv_at hl 0 rfl) ?_
          refine lv_iload_n hx hb d_N_unlink_65 rfl (lv_at hl 2 rfl) ?_
          refine lv_icmp_ne (tgt := 82) hx hb d_N_unlink_66 (by decide) (fun _ => ?_) (fun c9 => absurd c9 hc5)
          refine lv_iload hx hb d_N_unlink_82 (lv_at hl 0 rfl) ?_
          refine lv_istore_n (lv' := [(3, .int z_32), (5, .int z_32), (0, .ref x0), (1, .int x1), (4, .int x4)]) hx hb d_N_unlink_84 rfl hl (by decide) rfl (fun ls hl => ?_)
          refine lv_iinc (v := y6) (lv' := [(4, .int y6), (3, .int z_32), (5, .int z_32), (0, .ref x0), (1, .int x1)]) hx hb d_N_unlink_85 hl (k := 4) rfl (by subst ey6; rfl) (by decide) rfl (fun ls hl => ?_)
          refine lv_goto (tgt := 43) hx hb d_N_unlink_88 (by decide) ?_
          exact w9 p e s m args below meth c A H locs ls F hw (lv_sub hl [3, 4, 1, 0] rfl)
set_option maxRecDepth 100000 in
set_option maxHeartbeats 4000000 in
theorem t_N_unlink_J69 (l : Launch) (Z : XZ) (u0 : PS) {K : PS → Prop} (x0 : Nat) (x1 : Int32) (x3 : Int32) (u : PS) (k : (p_N_unlink_J69 K x0 x1 x3 u)) : XN l Z i_N_unlink u0 (kV K) u 69 [(0, .ref x0), (1, .int x1), (3, .int x3)] [] := by
  unfold p_N_unlink_J69 at k
  obtain ⟨z_33, h1, k⟩ := k
  obtain ⟨z_34, h2, k⟩ := k
  obtain ⟨z_35, h3, k⟩ := k
  obtain ⟨u_36, h4, k⟩ := k
  have hle_u_36 : x_le u_36 u_36 := x_le.rf u_36
  have hle_u : x_le u u_36 := (h4.le).tr hle_u_36
  refine ⟨none, u_36, ⟨rfl, k⟩, hle_u, ?_⟩
  intro p e s m args below meth c A H locs ls F hw hl
  obtain ⟨⟨hx, hb, hml, hown, hts⟩, hr, hlocks, hmn⟩ := id F
  refine lv_aload_n hx hb d_N_unlink_69 rfl (lv_at hl 0 rfl) ?_
  refine xr_get hx hb hts (xmu uws_N) hown hw h1 rfl (by decide) (hts _ (xm w_81)) (fun _ h9 => h9) d_N_unlink_70 ?_
  refine lv_iload_n hx hb d_N_unlink_73 rfl (lv_at hl 2 rfl) ?_
  refine lv_aload_n hx hb d_N_unlink_74 rfl (lv_at hl 0 rfl) ?_
  refine xr_get hx hb hts (xmu uws_N) hown hw h2 rfl (by decide) (hts _ (xm w_81)) (fun _ h9 => h9) d_N_unlink_75 ?_
  refine lv_iload_n hx hb d_N_unlink_78 rfl (lv_at hl 1 rfl) ?_
  refine xr_iald hx hb hw h3 d_N_unlink_79 ?_
  refine xr_iast hx hb hw h4 d_N_unlink_80 (fun H locs hw => ?_)
  exact xr_vret F rfl hw d_N_unlink_81
set_option maxRecDepth 100000 in
set_option maxHeartbeats 4000000 in
theorem c_N_unlink (l : Launch) (Z : XZ) (x0 : Nat) (x1 : Int32) (u : PS) (K : PS → Prop) (k : p_N_unlink x0 x1 u K) : ∃ (rv : Option Value) (u1 : PS), (kV K) rv u1 ∧ XMet l Z i_N_unlink [.ref x0, .int x1] u rv u1 := by
  refine x_met (by decide) rfl (Nat.le_of_ble_eq_true rfl) ?_
  show XN l Z i_N_unlink u (kV K) u 0 [(0, .ref x0), (1, .int x1)] []
  unfold p_N_unlink at k
  obtain ⟨z_22, h1, k⟩ := k
  obtain ⟨z_23, h2, k⟩ := k
  obtain ⟨z_24, h3, k⟩ := k
  obtain ⟨y4, ey4⟩ : ∃ y9 : Int32, y9 = (((z_23 * (-1640531535 : Int32)).toUInt32 >>> (z_24.toUInt32 &&& Int32.toUInt32 31)).toInt32) := ⟨_, rfl⟩
  have k := k y4 ey4
  obtain ⟨z_25, h5, k⟩ := k
  obtain ⟨z_26, h6, k⟩ := k
  by_cases hc7 : z_26 = x1
  · have k := k.2 hc7
    obtain ⟨z_27, h8, k⟩ := k
    obtain ⟨z_28, h9, k⟩ := k
    obtain ⟨z_29, h10, k⟩ := k
    obtain ⟨u_30, h11, k⟩ := k
    have hle_u_30 : x_le u_30 u_30 := x_le.rf u_30
    have hle_u : x_le u u_30 := (h11.le).tr hle_u_30
    refine ⟨none, u_30, ⟨rfl, k⟩, hle_u, ?_⟩
    intro p e s m args below meth c A H locs ls F hw hl
    obtain ⟨⟨hx, hb, hml, hown, hts⟩, hr, hlocks, hmn⟩ := id F
    refine lv_aload_n hx hb d_N_unlink_0 rfl (lv_at hl 0 rfl) ?_
    refine xr_get hx hb hts (xmu uws_N) hown hw h1 rfl (by decide) (hts _ (xm w_72)) (fun _ h9 => h9) d_N_unlink_1 ?_
    refine lv_iload_n hx hb d_N_unlink_4 rfl (lv_at hl 1 rfl) ?_
    refine xr_iald hx hb hw h2 d_N_unlink_5 ?_
    refine lv_ldc (v := (-1640531535)) hx hb hown (hts _ (xm w_312)) d_N_unlink_6 ?_
    refine lv_imul hx hb d_N_unlink_8 ?_
    refine lv_aload_n hx hb d_N_unlink_9 rfl (lv_at hl 0 rfl) ?_
    refine xr_get hx hb hts (xmu uws_N) hown hw h3 rfl (by decide) (hts _ (xm w_83)) (fun _ h9 => h9) d_N_unlink_10 ?_
    refine lv_iushr hx hb d_N_unlink_13 rfl ?_
    refine lv_istore_n (lv' := [(2, .int y4), (0, .ref x0), (1, .int x1)]) hx hb d_N_unlink_14 rfl hl (by decide) (by subst ey4; rfl) (fun ls hl => ?_)
    refine lv_aload_n hx hb d_N_unlink_15 rfl (lv_at hl 1 rfl) ?_
    refine xr_get hx hb hts (xmu uws_N) hown hw h5 rfl (by decide) (hts _ (xm w_82)) (fun _ h9 => h9) d_N_unlink_16 ?_
    refine lv_iload_n hx hb d_N_unlink_19 rfl (lv_at hl 0 rfl) ?_
    refine xr_iald hx hb hw h6 d_N_unlink_20 ?_
    refine lv_istore_n (lv' := [(3, .int z_26), (2, .int y4), (0, .ref x0), (1, .int x1)]) hx hb d_N_unlink_21 rfl hl (by decide) rfl (fun ls hl => ?_)
    refine lv_iload_n hx hb d_N_unlink_22 rfl (lv_at hl 0 rfl) ?_
    refine lv_iload_n hx hb d_N_unlink_23 rfl (lv_at hl 3 rfl) ?_
    refine lv_icmp_ne (tgt := 40) hx hb d_N_unlink_24 (by decide) (fun c9 => absurd hc7 c9) (fun _ => ?_)
    refine lv_aload_n hx hb d_N_unlink_27 rfl (lv_at hl 2 rfl) ?_
    refine xr_get hx hb hts (xmu uws_N) hown hw h8 rfl (by decide) (hts _ (xm w_82)) (fun _ h9 => h9) d_N_unlink_28 ?_
    refine lv_iload_n hx hb d_N_unlink_31 rfl (lv_at hl 1 rfl) ?_
    refine lv_aload_n hx hb d_N_unlink_32 rfl (lv_at hl 2 rfl) ?_
    refine xr_get hx hb hts (xmu uws_N) hown hw h9 rfl (by decide) (hts _ (xm w_81)) (fun _ h9 => h9) d_N_unlink_33 ?_
    refine lv_iload_n hx hb d_N_unlink_36 rfl (lv_at hl 3 rfl) ?_
    refine xr_iald hx hb hw h10 d_N_unlink_37 ?_
    refine xr_iast hx hb hw h11 d_N_unlink_38 (fun H locs hw => ?_)
    exact xr_vret F rfl hw d_N_unlink_39
  · have k := k.1 hc7
    obtain ⟨n12, k⟩ := k
    have hx15 : ∀ (y3_13 : Int32) (v14 : PS), (p_N_unlink_J69 K x0 x1 y3_13 v14) → XN l Z i_N_unlink u (kV K) v14 69 [(0, .ref x0), (1, .int x1), (3, .int y3_13)] [] := by
      intro y3_13 v14 k
      obtain ⟨rv, v9, hK, hle_v14, w9⟩ := t_N_unlink_J69 l Z u x0 x1 y3_13 v14 k
      refine ⟨rv, v9, hK, hle_v14, ?_⟩
      intro p e s m args below meth c A H locs ls F hw hl
      obtain ⟨⟨hx, hb, hml, hown, hts⟩, hr, hlocks, hmn⟩ := id F
      exact w9 p e s m args below meth c A H locs ls F hw (lv_sub hl [0, 1, 2] rfl)
    have hx17 : ∀ (v16 : PS), (K v16) → XN l Z i_N_unlink u (kV K) v16 91 [] [] := by
      intro v16 k
      have hle_v16 : x_le v16 v16 := x_le.rf v16
      refine ⟨none, v16, ⟨rfl, k⟩, hle_v16, ?_⟩
      intro p e s m args below meth c A H locs ls F hw hl
      obtain ⟨⟨hx, hb, hml, hown, hts⟩, hr, hlocks, hmn⟩ := id F
      exact xr_vret F rfl hw d_N_unlink_91
    obtain ⟨rv, v9, hK, hle_u, w9⟩ := t_N_unlink_L43 l Z u x0 x1 hx15 hx17 n12 z_26 (0 : Int32) u k
    refine ⟨rv, v9, hK, hle_u, ?_⟩
    intro p e s m args below meth c A H locs ls F hw hl
    obtain ⟨⟨hx, hb, hml, hown, hts⟩, hr, hlocks, hmn⟩ := id F
    refine lv_aload_n hx hb d_N_unlink_0 rfl (lv_at hl 0 rfl) ?_
    refine xr_get hx hb hts (xmu uws_N) hown hw h1 rfl (by decide) (hts _ (xm w_72)) (fun _ h9 => h9) d_N_unlink_1 ?_
    refine lv_iload_n hx hb d_N_unlink_4 rfl (lv_at hl 1 rfl) ?_
    refine xr_iald hx hb hw h2 d_N_unlink_5 ?_
    refine lv_ldc (v := (-1640531535)) hx hb hown (hts _ (xm w_312)) d_N_unlink_6 ?_
    refine lv_imul hx hb d_N_unlink_8 ?_
    refine lv_aload_n hx hb d_N_unlink_9 rfl (lv_at hl 0 rfl) ?_
    refine xr_get hx hb hts (xmu uws_N) hown hw h3 rfl (by decide) (hts _ (xm w_83)) (fun _ h9 => h9) d_N_unlink_10 ?_
    refine lv_iushr hx hb d_N_unlink_13 rfl ?_
    refine lv_istore_n (lv' := [(2, .int y4), (0, .ref x0), (1, .int x1)]) hx hb d_N_unlink_14 rfl hl (by decide) (by subst ey4; rfl) (fun ls hl => ?_)
    refine lv_aload_n hx hb d_N_unlink_15 rfl (lv_at hl 1 rfl) ?_
    refine xr_get hx hb hts (xmu uws_N) hown hw h5 rfl (by decide) (hts _ (xm w_82)) (fun _ h9 => h9) d_N_unlink_16 ?_
    refine lv_iload_n hx hb d_N_unlink_19 rfl (lv_at hl 0 rfl) ?_
    refine xr_iald hx hb hw h6 d_N_unlink_20 ?_
    refine lv_istore_n (lv' := [(3, .int z_26), (2, .int y4), (0, .ref x0), (1, .int x1)]) hx hb d_N_unlink_21 rfl hl (by decide) rfl (fun ls hl => ?_)
    refine lv_iload_n hx hb d_N_unlink_22 rfl (lv_at hl 0 rfl) ?_
    refine lv_iload_n hx hb d_N_unlink_23 rfl (lv_at hl 3 rfl) ?_
    refine lv_icmp_ne (tgt := 40) hx hb d_N_unlink_24 (by decide) (fun _ => ?_) (fun c9 => absurd c9 hc7)
    refine lv_iconst (v := 0) hx hb d_N_unlink_40 (by decide) ?_
    refine lv_istore (lv' := [(4, .int 0), (3, .int z_26), (2, .int y4), (0, .ref x0), (1, .int x1)]) hx hb d_N_unlink_41 hl (by decide) rfl (fun ls hl => ?_)
    exact w9 p e s m args below meth c A H locs ls F hw (lv_sub hl [3, 4, 1, 0] rfl)
set_option maxRecDepth 100000 in
set_option maxHeartbeats 4000000 in
theorem c_N_lead (l : Launch) (Z : XZ) (x0 : Nat) (x1 : Int32) (u : PS) (K : PS → Prop) (k : p_N_lead x0 x1 u K) : ∃ (rv : Option Value) (u1 : PS), (kV K) rv u1 ∧ XMet l Z i_N_lead [.ref x0, .int x1] u rv u1 := by
  refine x_met (by decide) rfl (Nat.le_of_ble_eq_true rfl) ?_
  show XN l Z i_N_lead u (kV K) u 0 [(0, .ref x0), (1, .int x1)] []
  unfold p_N_lead at k
  obtain ⟨z_4, h1, k⟩ := k
  obtain ⟨z_5, h2, k⟩ := k
  obtain ⟨u_6, h3, k⟩ := k
  have hle_u_6 : x_le u_6 u_6 := x_le.rf u_6
  have hle_u : x_le u u_6 := (h3.le).tr hle_u_6
  refine ⟨none, u_6, ⟨rfl, k⟩, hle_u, ?_⟩
  intro p e s m args below meth c A H locs ls F hw hl
  obtain ⟨⟨hx, hb, hml, hown, hts⟩, hr, hlocks, hmn⟩ := id F
  refine lv_aload_n hx hb d_N_lead_0 rfl (lv_at hl 0 rfl) ?_
  refine xr_get hx hb hts (xmu uws_N) hown hw h1 rfl (by decide) (hts _ (xm w_74)) (fun _ h9 => h9) d_N_lead_1 ?_
  refine lv_iload_n hx hb d_N_lead_4 rfl (lv_at hl 1 rfl) ?_
  refine lv_dup2_11 hx hb d_N_lead_5 rfl rfl ?_
  refine xr_iald hx hb hw h2 d_N_lead_6 ?_
  refine lv_iconst (v := 1) hx hb d_N_lead_7 (by decide) ?_
  refine lv_iadd hx hb d_N_lead_8 ?_
  refine xr_iast hx hb hw h3 d_N_lead_9 (fun H locs hw => ?_)
  exact xr_vret F rfl hw d_N_lead_10
set_option maxRecDepth 100000 in
set_option maxHeartbeats 4000000 in
theorem c_N_forget (l : Launch) (Z : XZ) (x0 : Nat) (x1 : Int32) (u : PS) (K : PS → Prop) (k : p_N_forget x0 x1 u K) : ∃ (rv : Option Value) (u1 : PS), (kV K) rv u1 ∧ XMet l Z i_N_forget [.ref x0, .int x1] u rv u1 := by
  refine x_met (by decide) rfl (Nat.le_of_ble_eq_true rfl) ?_
  show XN l Z i_N_forget u (kV K) u 0 [(0, .ref x0), (1, .int x1)] []
  unfold p_N_forget at k
  obtain ⟨h2, k⟩ := k
  obtain ⟨_, u_30, ⟨rfl, k⟩, hM1⟩ := c_N_unlink l Z x0 x1 u _ k
  obtain ⟨z_31, h3, k⟩ := k
  obtain ⟨z_32, h4, k⟩ := k
  obtain ⟨y5, ey5⟩ : ∃ y9 : Int32, y9 = ((z_32.toUInt32 >>> ((28 : Int32).toUInt32 &&& Int32.toUInt32 31)).toInt32) := ⟨_, rfl⟩
  have k := k y5 ey5
  obtain ⟨z_33, h6, k⟩ := k
  obtain ⟨z_34, h7, k⟩ := k
  obtain ⟨y8, ey8⟩ : ∃ y9 : Int32, y9 = (z_34 - (1 : Int32)) := ⟨_, rfl⟩
  have k := k y8 ey8
  obtain ⟨z_35, h9, k⟩ := k
  obtain ⟨z_36, h10, k⟩ := k
  obtain ⟨z_37, h11, k⟩ := k
  obtain ⟨z_38, h12, k⟩ := k
  obtain ⟨z_39, h13, k⟩ := k
  obtain ⟨z_40, h14, k⟩ := k
  obtain ⟨z_41, h15, k⟩ := k
  obtain ⟨u_42, h16, k⟩ := k
  obtain ⟨z_43, h17, k⟩ := k
  obtain ⟨z_44, h18, k⟩ := k
  obtain ⟨z_45, h19, k⟩ := k
  obtain ⟨u_46, h20, k⟩ := k
  obtain ⟨z_47, h21, k⟩ := k
  obtain ⟨u_48, h22, k⟩ := k
  obtain ⟨z_49, h23, k⟩ := k
  obtain ⟨u_50, h24, k⟩ := k
  obtain ⟨z_51, h25, k⟩ := k
  obtain ⟨u_52, h26, k⟩ := k
  obtain ⟨z_53, h27, k⟩ := k
  obtain ⟨z_54, h28, k⟩ := k
  obtain ⟨u_55, h29, k⟩ := k
  obtain ⟨u_56, h30, k⟩ := k
  have hle_u_56 : x_le u_56 u_56 := x_le.rf u_56
  have hle_u_55 : x_le u_55 u_56 := (h30.le).tr hle_u_56
  have hle_u_52 : x_le u_52 u_56 := (h29.le).tr hle_u_55
  have hle_u_50 : x_le u_50 u_56 := (h26.le).tr hle_u_52
  have hle_u_48 : x_le u_48 u_56 := (h24.le).tr hle_u_50
  have hle_u_46 : x_le u_46 u_56 := (h22.le).tr hle_u_48
  have hle_u_42 : x_le u_42 u_56 := (h20.le).tr hle_u_46
  have hle_u_30 : x_le u_30 u_56 := (h16.le).tr hle_u_42
  have hle_u : x_le u u_56 := (hM1.1).tr hle_u_30
  refine ⟨none, u_56, ⟨rfl, k⟩, hle_u, ?_⟩
  intro p e s m args below meth c A H locs ls F hw hl
  obtain ⟨⟨hx, hb, hml, hown, hts⟩, hr, hlocks, hmn⟩ := id F
  refine lv_aload_n hx hb d_N_forget_0 rfl (lv_at hl 0 rfl) ?_
  refine lv_iload_n hx hb d_N_forget_1 rfl (lv_at hl 1 rfl) ?_
  refine xr_cV (As := [.int x1]) (rest := []) ⟨hx, hb, hml, hown, hts⟩ hw hM1 hle_u_30 (fun _ _ => ⟨callB_of 1 hts (xgood w_387) rfl rfl rfl (hts _ (xm w_4)) (hts _ (xm w_384)) ⟨by decide, by decide, by decide +kernel⟩ ⟨Nat.le_of_ble_eq_true rfl, Nat.le_of_ble_eq_true rfl⟩, (hts _ (xm w_386)), (hts _ (xm wp_17))⟩) (qc := (R_N, F_N, 13)) rfl rfl h2 rfl hl.1 rfl (Nat.le_of_ble_eq_true rfl) d_N_forget_2 (fun H locs hw => ?_)
  refine W.eq (g2 := F0 m 5 ls []) rfl ?_
  refine lv_aload_n hx hb d_N_forget_5 rfl (lv_at hl 0 rfl) ?_
  refine xr_get hx hb hts (xmu uws_N) hown hw h3 rfl (by decide) (hts _ (xm w_72)) (fun _ h9 => h9) d_N_forget_6 ?_
  refine lv_iload_n hx hb d_N_forget_9 rfl (lv_at hl 1 rfl) ?_
  refine xr_iald hx hb hw h4 d_N_forget_10 ?_
  refine lv_bipush (v := 28) hx hb d_N_forget_11 (by decide) ?_
  refine lv_iushr hx hb d_N_forget_13 rfl ?_
  refine lv_istore_n (lv' := [(2, .int y5), (0, .ref x0), (1, .int x1)]) hx hb d_N_forget_14 rfl hl (by decide) (by subst ey5; rfl) (fun ls hl => ?_)
  refine lv_aload_n hx hb d_N_forget_15 rfl (lv_at hl 1 rfl) ?_
  refine xr_get hx hb hts (xmu uws_N) hown hw h6 rfl (by decide) (hts _ (xm w_78)) (fun _ h9 => h9) d_N_forget_16 ?_
  refine lv_iload_n hx hb d_N_forget_19 rfl (lv_at hl 0 rfl) ?_
  refine xr_iald hx hb hw h7 d_N_forget_20 ?_
  refine lv_iconst (v := 1) hx hb d_N_forget_21 (by decide) ?_
  refine lv_isub hx hb d_N_forget_22 ?_
  refine lv_istore_n (lv' := [(3, .int y8), (2, .int y5), (0, .ref x0), (1, .int x1)]) hx hb d_N_forget_23 rfl hl (by decide) (by subst ey8; rfl) (fun ls hl => ?_)
  refine lv_aload_n hx hb d_N_forget_24 rfl (lv_at hl 2 rfl) ?_
  refine xr_get hx hb hts (xmu uws_N) hown hw h9 rfl (by decide) (hts _ (xm w_76)) (fun _ h9 => h9) d_N_forget_25 ?_
  refine lv_iload_n hx hb d_N_forget_28 rfl (lv_at hl 1 rfl) ?_
  refine xr_aald hx hb hw rfl h10 d_N_forget_29 ?_
  refine lv_iload_n hx hb d_N_forget_30 rfl (lv_at hl 0 rfl) ?_
  refine xr_iald hx hb hw h11 d_N_forget_31 ?_
  refine lv_istore (lv' := [(4, .int z_37), (3, .int y8), (2, .int y5), (0, .ref x0), (1, .int x1)]) hx hb d_N_forget_32 hl (by decide) rfl (fun ls hl => ?_)
  refine lv_aload_n hx hb d_N_forget_34 rfl (lv_at hl 3 rfl) ?_
  refine xr_get hx hb hts (xmu uws_N) hown hw h12 rfl (by decide) (hts _ (xm w_76)) (fun _ h9 => h9) d_N_forget_35 ?_
  refine lv_iload_n hx hb d_N_forget_38 rfl (lv_at hl 2 rfl) ?_
  refine xr_aald hx hb hw rfl h13 d_N_forget_39 ?_
  refine lv_aload_n hx hb d_N_forget_40 rfl (lv_at hl 3 rfl) ?_
  refine xr_get hx hb hts (xmu uws_N) hown hw h14 rfl (by decide) (hts _ (xm w_80)) (fun _ h9 => h9) d_N_forget_41 ?_
  refine lv_iload_n hx hb d_N_forget_44 rfl (lv_at hl 4 rfl) ?_
  refine xr_iald hx hb hw h15 d_N_forget_45 ?_
  refine lv_iload hx hb d_N_forget_46 (lv_at hl 0 rfl) ?_
  refine xr_iast hx hb hw h16 d_N_forget_48 (fun H locs hw => ?_)
  refine lv_aload_n hx hb d_N_forget_49 rfl (lv_at hl 3 rfl) ?_
  refine xr_get hx hb hts (xmu uws_N) hown hw h17 rfl (by decide) (hts _ (xm w_80)) (fun _ h9 => h9) d_N_forget_50 ?_
  refine lv_iload hx hb d_N_forget_53 (lv_at hl 0 rfl) ?_
  refine lv_aload_n hx hb d_N_forget_55 rfl (lv_at hl 3 rfl) ?_
  refine xr_get hx hb hts (xmu uws_N) hown hw h18 rfl (by decide) (hts _ (xm w_80)) (fun _ h9 => h9) d_N_forget_56 ?_
  refine lv_iload_n hx hb d_N_forget_59 rfl (lv_at hl 4 rfl) ?_
  refine xr_iald hx hb hw h19 d_N_forget_60 ?_
  refine xr_iast hx hb hw h20 d_N_forget_61 (fun H locs hw => ?_)
  refine lv_aload_n hx hb d_N_forget_62 rfl (lv_at hl 3 rfl) ?_
  refine xr_get hx hb hts (xmu uws_N) hown hw h21 rfl (by decide) (hts _ (xm w_78)) (fun _ h9 => h9) d_N_forget_63 ?_
  refine lv_iload_n hx hb d_N_forget_66 rfl (lv_at hl 2 rfl) ?_
  refine lv_iload_n hx hb d_N_forget_67 rfl (lv_at hl 1 rfl) ?_
  refine xr_iast hx hb hw h22 d_N_forget_68 (fun H locs hw => ?_)
  refine lv_aload_n hx hb d_N_forget_69 rfl (lv_at hl 3 rfl) ?_
  refine lv_dup hx hb d_N_forget_70 rfl ?_
  refine xr_get hx hb hts (xmu uws_N) hown hw h23 rfl (by decide) (hts _ (xm w_87)) (fun _ h9 => h9) d_N_forget_71 ?_
  refine lv_iconst (v := 1) hx hb d_N_forget_74 (by decide) ?_
  refine lv_isub hx hb d_N_forget_75 ?_
  refine xr_put (ty := .int) hx hb hts (xmu uws_N) tyc_N tyc_N_ok nmc_N hown hw h24 rfl (by decide) (hts _ (xm w_87)) (fun _ h9 => h9) rfl (by decide +kernel) rfl rfl d_N_forget_76 (fun H locs hw => ?_)
  refine lv_aload_n hx hb d_N_forget_79 rfl (lv_at hl 3 rfl) ?_
  refine xr_get hx hb hts (xmu uws_N) hown hw h25 rfl (by decide) (hts _ (xm w_72)) (fun _ h9 => h9) d_N_forget_80 ?_
  refine lv_iload_n hx hb d_N_forget_83 rfl (lv_at hl 4 rfl) ?_
  refine lv_iconst (v := 0) hx hb d_N_forget_84 (by decide) ?_
  refine xr_iast hx hb hw h26 d_N_forget_85 (fun H locs hw => ?_)
  refine lv_aload_n hx hb d_N_forget_86 rfl (lv_at hl 3 rfl) ?_
  refine xr_get hx hb hts (xmu uws_N) hown hw h27 rfl (by decide) (hts _ (xm w_81)) (fun _ h9 => h9) d_N_forget_87 ?_
  refine lv_iload_n hx hb d_N_forget_90 rfl (lv_at hl 4 rfl) ?_
  refine lv_aload_n hx hb d_N_forget_91 rfl (lv_at hl 3 rfl) ?_
  refine xr_get hx hb hts (xmu uws_N) hown hw h28 rfl (by decide) (hts _ (xm w_84)) (fun _ h9 => h9) d_N_forget_92 ?_
  refine xr_iast hx hb hw h29 d_N_forget_95 (fun H locs hw => ?_)
  refine lv_aload_n hx hb d_N_forget_96 rfl (lv_at hl 3 rfl) ?_
  refine lv_iload_n hx hb d_N_forget_97 rfl (lv_at hl 4 rfl) ?_
  refine xr_put (ty := .int) hx hb hts (xmu uws_N) tyc_N tyc_N_ok nmc_N hown hw h30 rfl (by decide) (hts _ (xm w_84)) (fun _ h9 => h9) rfl (by decide +kernel) rfl rfl d_N_forget_98 (fun H locs hw => ?_)
  exact xr_vret F rfl hw d_N_forget_101
