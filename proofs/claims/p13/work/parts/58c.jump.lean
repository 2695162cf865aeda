/-! the ways and the reading, counted -/
set_option maxHeartbeats 2000000 in
theorem c_X10_turnJump_w (l : Launch) (D : va_G) (ct : Nat → ClassId) (d : Nat) (cc : Int32) (kk : Int32) (tl : Nat) (v0 : Int64) (v1 : Int32) (tls : Nat) (o0 : Nat) (p0 : Nat) (x_tl_3 : Int32) (x_tl_4 : Int32) (o0r : Nat) (x_o0_1 : Int32) (g_o0r : Nat → Int32) (g_tls : Nat → Int32) (h_x_tl_3 : rg x_tl_3 0 1) (h_x_tl_4 : rg x_tl_4 0 999800) (h_x_o0_1 : rg x_o0_1 0 60000) (h_g_tls : Rg g_tls 4001 0 1073741824) (hq0 : cc.toInt = v0.toInt % 256) (hq1 : kk.toInt = v0.toInt / 4294967296) (hg0 : TWjump cc.toInt kk.toInt d) : KV (S := Int32 × (Nat → Int32)) l yX10_turnJump cX10_turnJump 7 none 4 90 D ct [.ref tl, .long v0, .int v1] [(tl, .inr (10, [.ref tls, .ref o0, .ref p0, .int x_tl_3, .int x_tl_4])), (o0, .inr (5, [.ref o0r, .int x_o0_1])), (o0r, .inl (ct 1, 60000, .inl g_o0r)), (tls, .inl (ct 1, 4001, .inl g_tls))] 0 0 (fun (u : Int32 × (Nat → Int32)) => match u with | (y_tl_4, k_o0r) => rg y_tl_4 1 1000001 ∧ (x_tl_4.toInt + 1 ≤ y_tl_4.toInt ∧ y_tl_4.toInt ≤ x_tl_4.toInt + 7) ∧ (y_tl_4.toInt = x_tl_4.toInt + ((d : Nat) : Int))) (fun (u : Int32 × (Nat → Int32)) => match u with | (y_tl_4, k_o0r) => [(tl, .inr (10, [.ref tls, .ref o0, .ref p0, .int x_tl_3, .int y_tl_4])), (o0, .inr (5, [.ref o0r, .int x_o0_1])), (o0r, .inl (ct 1, 60000, .inl k_o0r)), (tls, .inl (ct 1, 4001, .inl g_tls))]) := by
  refine KVq_of (by decide) (Nat.le_of_ble_eq_true rfl) (fun p e s m below meth c A Q C0 hA H locs hS hP hD hQ ls hl => ?_)
  obtain ⟨hx, hb, hr, hown, hin, hml, hlocks, hn, hK, hZ, hSK⟩ := C0
  have hl : lv_has ls 7 [(0, .ref tl), (1, .long v0), (3, .int v1)] := hl
  replace hq0 := FF.mk hq0
  replace hq1 := FF.mk hq1
  obtain ⟨tw0_1_0, tw0_1_1, tw0_1_2, tw0_1_3, tw0_1_4, tw0_1_5, tw0_1_6, tw0_1_7, tw0_1_8, tw0_1_9, tw0_1_10, tw0_1_11, tw0_1_12⟩ := hg0
  replace tw0_1_0 := FF.mk tw0_1_0
  replace tw0_1_1 := FF.mk tw0_1_1
  replace tw0_1_2 := FF.mk tw0_1_2
  replace tw0_1_3 := FF.mk tw0_1_3
  replace tw0_1_4 := FF.mk tw0_1_4
  replace tw0_1_5 := FF.mk tw0_1_5
  replace tw0_1_6 := FF.mk tw0_1_6
  replace tw0_1_7 := FF.mk tw0_1_7
  replace tw0_1_8 := FF.mk tw0_1_8
  replace tw0_1_9 := FF.mk tw0_1_9
  replace tw0_1_10 := FF.mk tw0_1_10
  replace tw0_1_11 := FF.mk tw0_1_11
  replace tw0_1_12 := FF.mk tw0_1_12
  refine lv_lload_n hx hb dX10_turnJump_0 rfl (lv_at hl 1 rfl) ?_
  refine go_i (k1 := 0) (n1 := 0) (wr := [(tl, .inr (10, [.ref tls, .ref o0, .ref p0, .int x_tl_3, .int x_tl_4])), (o0, .inr (5, [.ref o0r, .int x_o0_1])), (o0r, .inl (ct 1, 60000, .inl g_o0r)), (tls, .inl (ct 1, 4001, .inl g_tls))]) [] [0, 1, 2, 3] (rn_SN (As := [.long v0]) (rest := []) (c_X7_codeOf l D ct v0  _) (cn_of (n := 1) hn mw_956 mw_7 mw_1299 mhX7_codeOf ⟨(Nat.le_of_ble_eq_true rfl), (Nat.le_of_ble_eq_true rfl)⟩) hx hb hml hown hn hK hSK hZ hS mw_955 rfl hl.1 (Nat.le_of_ble_eq_true rfl) dX10_turnJump_1 ⟨(Nat.le_of_ble_eq_true rfl), (Nat.le_of_ble_eq_true rfl)⟩) hP hD hS hA rfl rfl (by decide) (by decide) (by decide) (Nat.le_of_ble_eq_true rfl) (Nat.le_of_ble_eq_true rfl) (fun r1_1 u1_2 H locs hp1_3 hP hD hS => ?_)
  obtain ⟨hp1_4, hp1_5⟩ := hp1_3
  have hp1_4 : rg r1_1 0 255 := hp1_4
  replace hp1_5 : FF (r1_1.toInt = v0.toInt % 256) := hp1_5
  have hP : va_P D vwCl [(tl, .inr (10, [.ref tls, .ref o0, .ref p0, .int x_tl_3, .int x_tl_4])), (o0, .inr (5, [.ref o0r, .int x_o0_1])), (o0r, .inl (ct 1, 60000, .inl g_o0r)), (tls, .inl (ct 1, 4001, .inl g_tls))] _ := hP
  have hD : va_D A [(tl, .inr (10, [.ref tls, .ref o0, .ref p0, .int x_tl_3, .int x_tl_4])), (o0, .inr (5, [.ref o0r, .int x_o0_1])), (o0r, .inl (ct 1, 60000, .inl g_o0r)), (tls, .inl (ct 1, 4001, .inl g_tls))] := hD
  have hk4_1 : FF (r1_1.toInt = cc.toInt) := FF.mk (by have h1 := FF.out hq0; have h2 := FF.out hp1_5; omega)
  refine lv_istore (lv' := [(4, .int r1_1), (0, .ref tl), (1, .long v0), (3, .int v1)]) hx hb dX10_turnJump_4 hl (by decide) rfl (fun ls hl => ?_)
  refine lv_iload hx hb dX10_turnJump_6 (lv_at hl 0 rfl) ?_
  refine lv_iconst (v := 5) hx hb dX10_turnJump_8 (by decide) ?_
  refine lv_icmp_eq (tgt := 80) hx hb dX10_turnJump_9 (by decide) (fun c9_1 => ?_) (fun c9_1 => ?_)
  · have t9_2 := FF.mk (i_eq c9_1)
    have r9_3 : rg r1_1 5 5 := rg_eqA t9_2 hp1_4 (show rg (5 : Int32) 5 5 from rg_l (by decide)) (by decide)
    have hk80_1 : FF (((d : Nat) : Int) = 1) := FF.mk (have e9 : ((d : Nat) : Int) = 1 := FF.out tw0_1_0 (show cc.toInt = 5 by have q0 := r9_3.1; have q1 := r9_3.2; have q2 := FF.out hk4_1; omega); (show ((d : Nat) : Int) = 1 by have q0 := e9; omega))
    refine lv_iload_n hx hb dX10_turnJump_80 rfl (lv_at hl 3 rfl) ?_
    refine lv_iconst (v := 1) hx hb dX10_turnJump_81 (by decide) ?_
    refine lv_iadd hx hb dX10_turnJump_82 ?_
    refine lv_topi (fun z82_1 ez82_1 => ?_)
    refine lv_lload_n hx hb dX10_turnJump_83 rfl (lv_at hl 2 rfl) ?_
    refine go_i (k1 := 0) (n1 := 0) (wr := [(tl, .inr (10, [.ref tls, .ref o0, .ref p0, .int x_tl_3, .int x_tl_4])), (o0, .inr (5, [.ref o0r, .int x_o0_1])), (o0r, .inl (ct 1, 60000, .inl g_o0r)), (tls, .inl (ct 1, 4001, .inl g_tls))]) [] [0, 1, 2, 3] (rn_SN (As := [.long v0]) (rest := [.int z82_1]) (c_X7_offOf_w l D ct v0  _) (cn_of (n := 1) hn mw_992 mw_7 mw_1368 mhX7_offOf ⟨(Nat.le_of_ble_eq_true rfl), (Nat.le_of_ble_eq_true rfl)⟩) hx hb hml hown hn hK hSK hZ hS mw_991 rfl hl.1 (Nat.le_of_ble_eq_true rfl) dX10_turnJump_84 ⟨(Nat.le_of_ble_eq_true rfl), (Nat.le_of_ble_eq_true rfl)⟩) hP hD hS hA rfl rfl (by decide) (by decide) (by decide) (Nat.le_of_ble_eq_true rfl) (Nat.le_of_ble_eq_true rfl) (fun r84_1 u84_2 H locs hp84_3 hP hD hS => ?_)
    obtain ⟨hp84_4, hp84_5⟩ := hp84_3
    have hp84_4 : rg r84_1 (-32768) 32767 := hp84_4
    replace hp84_5 : FF (r84_1.toInt = (v0.toInt / 65536 + 32768) % 65536 - 32768) := hp84_5
    have hP : va_P D vwCl [(tl, .inr (10, [.ref tls, .ref o0, .ref p0, .int x_tl_3, .int x_tl_4])), (o0, .inr (5, [.ref o0r, .int x_o0_1])), (o0r, .inl (ct 1, 60000, .inl g_o0r)), (tls, .inl (ct 1, 4001, .inl g_tls))] _ := hP
    have hD : va_D A [(tl, .inr (10, [.ref tls, .ref o0, .ref p0, .int x_tl_3, .int x_tl_4])), (o0, .inr (5, [.ref o0r, .int x_o0_1])), (o0r, .inl (ct 1, 60000, .inl g_o0r)), (tls, .inl (ct 1, 4001, .inl g_tls))] := hD
    refine lv_iadd hx hb dX10_turnJump_87 ?_
    refine lv_topi (fun z87_1 ez87_1 => ?_)
    refine lv_istore (lv' := [(5, .int z87_1), (4, .int r1_1), (0, .ref tl), (1, .long v0), (3, .int v1)]) hx hb dX10_turnJump_88 hl (by decide) rfl (fun ls hl => ?_)
    refine lv_aload_n hx hb dX10_turnJump_90 rfl (lv_at hl 2 rfl) ?_
    refine lv_iload hx hb dX10_turnJump_91 (lv_at hl 0 rfl) ?_
    refine lv_if_lt (tgt := 106) hx hb dX10_turnJump_93 (by decide) (fun c93_1 => ?_) (fun c93_1 => ?_)
    · have t93_2 := FF.mk (i_lt c93_1)
      have r93_3 : rg z87_1 (-2147483648) (-1) := rg_ltA t93_2 (rg_any z87_1) (show rg (0 : Int32) 0 0 from rg_l (by decide)) (by decide)
      refine lv_iconst (v := 0) hx hb dX10_turnJump_106 (by decide) ?_
      refine lv_goto (tgt := 124) hx hb dX10_turnJump_107 (by decide) ?_
      refine go_v (k1 := 0) (n1 := 0) (wr := [(tls, .inl (ct 1, 4001, .inl g_tls))]) [0, 1, 2] [3] (rn_V (As := [.int 0]) (rest := []) (c_X10_putGoing l D ct tl (0 : Int32) tls o0 p0 x_tl_3 x_tl_4 o0r x_o0_1 g_o0r h_x_tl_3 (rg_w h_x_tl_4 (by decide)) h_x_o0_1 _) (cb_of (n := 1) hn mw_1349 mw_10 mw_1346 mhX10_putGoing ⟨(Nat.le_of_ble_eq_true rfl), (Nat.le_of_ble_eq_true rfl)⟩) hx hb hml hown hn hK hSK hZ hS mw_1348 mw_s156 (ci := 10) (q0 := 0) rfl rfl rfl rfl hl.1 (Nat.le_of_ble_eq_true rfl) dX10_turnJump_124 ⟨(Nat.le_of_ble_eq_true rfl), (Nat.le_of_ble_eq_true rfl)⟩) hP hD hS hA rfl rfl (by decide) (by decide) (by decide) (Nat.le_of_ble_eq_true rfl) (Nat.le_of_ble_eq_true rfl) (fun u124_2 H locs hp124_3 hP hD hS => ?_)
      obtain ⟨y_tl_4124_4, k_o0r124_5⟩ := u124_2
      obtain ⟨hp124_6, hp124_7⟩ := hp124_3
      have hp124_6 : rg y_tl_4124_4 1 1000001 := hp124_6
      replace hp124_7 : FF (y_tl_4124_4.toInt = x_tl_4.toInt + 1) := hp124_7
      have hP : va_P D vwCl [(tls, .inl (ct 1, 4001, .inl g_tls)), (tl, .inr (10, [.ref tls, .ref o0, .ref p0, .int x_tl_3, .int y_tl_4124_4])), (o0, .inr (5, [.ref o0r, .int x_o0_1])), (o0r, .inl (ct 1, 60000, .inl k_o0r124_5))] _ := hP
      have hD : va_D A [(tls, .inl (ct 1, 4001, .inl g_tls)), (tl, .inr (10, [.ref tls, .ref o0, .ref p0, .int x_tl_3, .int y_tl_4124_4])), (o0, .inr (5, [.ref o0r, .int x_o0_1])), (o0r, .inl (ct 1, 60000, .inl k_o0r124_5))] := hD
      exact endq_v hQ hx hb hr hlocks dX10_turnJump_127 (y_tl_4124_4, k_o0r124_5) ⟨hp124_6, (show x_tl_4.toInt + 1 ≤ y_tl_4124_4.toInt ∧ y_tl_4124_4.toInt ≤ x_tl_4.toInt + 7 by have q0 := FF.out hp124_7; omega), (show y_tl_4124_4.toInt = x_tl_4.toInt + ((d : Nat) : Int) by have q0 := FF.out hk80_1; have q1 := FF.out hp124_7; omega)⟩ hP hD hS [1, 2, 3, 0] rfl (by decide) rfl (Nat.le_of_ble_eq_true rfl) (Nat.le_of_ble_eq_true rfl)
    · have t93_2 := FF.mk (i_nlt c93_1)
      have r93_3 : rg z87_1 0 2147483647 := rg_leB t93_2 (show rg (0 : Int32) 0 0 from rg_l (by decide)) (rg_any z87_1) (by decide)
      refine lv_iload hx hb dX10_turnJump_96 (lv_at hl 0 rfl) ?_
      refine lv_aload_n hx hb dX10_turnJump_98 rfl (lv_at hl 2 rfl) ?_
      refine va_get (D := D) (ci := 10) (v := .ref tls) (C := RX10) (T := TX10) (N := 5) hx hb (htX10 hn) (fun _ h => h) hown hK hP 0 rfl rfl 0 (by decide) (hn.get mw_288 rfl) (fun _ h9 => h9) rfl dX10_turnJump_99 ?_
      refine va_alen (v := 4001) hx hb hK hP 3 1 rfl rfl (show Int32.ofNat 4001 = 4001 by decide) dX10_turnJump_102 ?_
      refine lv_icmp_lt (tgt := 110) hx hb dX10_turnJump_103 (by decide) (fun c103_1 => ?_) (fun c103_1 => ?_)
      · have t103_2 := FF.mk (i_lt c103_1)
        have r103_3 : rg z87_1 0 4000 := rg_ltA t103_2 r93_3 (show rg (4001 : Int32) 4001 4001 from rg_l (by decide)) (by decide)
        refine lv_iconst (v := 4) hx hb dX10_turnJump_110 (by decide) ?_
        refine lv_aload_n hx hb dX10_turnJump_111 rfl (lv_at hl 2 rfl) ?_
        refine va_get (D := D) (ci := 10) (v := .ref tls) (C := RX10) (T := TX10) (N := 5) hx hb (htX10 hn) (fun _ h => h) hown hK hP 0 rfl rfl 0 (by decide) (hn.get mw_288 rfl) (fun _ h9 => h9) rfl dX10_turnJump_112 ?_
        refine lv_iload hx hb dX10_turnJump_115 (lv_at hl 0 rfl) ?_
        have hi117_1 : vp_in z87_1 4001 := (in_rg r103_3 (by decide))
        refine va_iald hx hb hK hP 3 1 rfl rfl hi117_1 dX10_turnJump_117 ?_
        refine lv_topi (fun z117_2 ez117_2 => ?_)
        have r117_3 : rg z117_2 0 1073741824 := Rg_at h_g_tls hi117_1 ez117_2
        refine lv_aload_n hx hb dX10_turnJump_118 rfl (lv_at hl 2 rfl) ?_
        refine va_get (D := D) (ci := 10) (v := .int x_tl_4) (C := RX10) (T := TX10) (N := 5) hx hb (htX10 hn) (fun _ h => h) hown hK hP 0 rfl rfl 4 (by decide) (hn.get mw_292 rfl) (fun _ h9 => h9) rfl dX10_turnJump_119 ?_
        refine lv_isub hx hb dX10_turnJump_122 ?_
        refine lv_topi (fun z122_1 ez122_1 => ?_)
        have r122_2 : rg z122_1 (-999800) 1073741824 := rg_sub ez122_1 r117_3 h_x_tl_4 (by decide)
        refine lv_imul hx hb dX10_turnJump_123 ?_
        refine lv_topi (fun z123_1 ez123_1 => ?_)
        refine go_v (k1 := 0) (n1 := 0) (wr := [(tls, .inl (ct 1, 4001, .inl g_tls))]) [0, 1, 2] [3] (rn_V (As := [.int z123_1]) (rest := []) (c_X10_putGoing l D ct tl z123_1 tls o0 p0 x_tl_3 x_tl_4 o0r x_o0_1 g_o0r h_x_tl_3 (rg_w h_x_tl_4 (by decide)) h_x_o0_1 _) (cb_of (n := 1) hn mw_1349 mw_10 mw_1346 mhX10_putGoing ⟨(Nat.le_of_ble_eq_true rfl), (Nat.le_of_ble_eq_true rfl)⟩) hx hb hml hown hn hK hSK hZ hS mw_1348 mw_s156 (ci := 10) (q0 := 0) rfl rfl rfl rfl hl.1 (Nat.le_of_ble_eq_true rfl) dX10_turnJump_124 ⟨(Nat.le_of_ble_eq_true rfl), (Nat.le_of_ble_eq_true rfl)⟩) hP hD hS hA rfl rfl (by decide) (by decide) (by decide) (Nat.le_of_ble_eq_true rfl) (Nat.le_of_ble_eq_true rfl) (fun u124_2 H locs hp124_3 hP hD hS => ?_)
        obtain ⟨y_tl_4124_4, k_o0r124_5⟩ := u124_2
        obtain ⟨hp124_6, hp124_7⟩ := hp124_3
        have hp124_6 : rg y_tl_4124_4 1 1000001 := hp124_6
        replace hp124_7 : FF (y_tl_4124_4.toInt = x_tl_4.toInt + 1) := hp124_7
        have hP : va_P D vwCl [(tls, .inl (ct 1, 4001, .inl g_tls)), (tl, .inr (10, [.ref tls, .ref o0, .ref p0, .int x_tl_3, .int y_tl_4124_4])), (o0, .inr (5, [.ref o0r, .int x_o0_1])), (o0r, .inl (ct 1, 60000, .inl k_o0r124_5))] _ := hP
        have hD : va_D A [(tls, .inl (ct 1, 4001, .inl g_tls)), (tl, .inr (10, [.ref tls, .ref o0, .ref p0, .int x_tl_3, .int y_tl_4124_4])), (o0, .inr (5, [.ref o0r, .int x_o0_1])), (o0r, .inl (ct 1, 60000, .inl k_o0r124_5))] := hD
        exact endq_v hQ hx hb hr hlocks dX10_turnJump_127 (y_tl_4124_4, k_o0r124_5) ⟨hp124_6, (show x_tl_4.toInt + 1 ≤ y_tl_4124_4.toInt ∧ y_tl_4124_4.toInt ≤ x_tl_4.toInt + 7 by have q0 := FF.out hp124_7; omega), (show y_tl_4124_4.toInt = x_tl_4.toInt + ((d : Nat) : Int) by have q0 := FF.out hk80_1; have q1 := FF.out hp124_7; omega)⟩ hP hD hS [1, 2, 3, 0] rfl (by decide) rfl (Nat.le_of_ble_eq_true rfl) (Nat.le_of_ble_eq_true rfl)
      · have t103_2 := FF.mk (i_nlt c103_1)
        have r103_3 : rg z87_1 4001 2147483647 := rg_leB t103_2 (show rg (4001 : Int32) 4001 4001 from rg_l (by decide)) r93_3 (by decide)
        refine lv_iconst (v := 0) hx hb dX10_turnJump_106 (by decide) ?_
        refine lv_goto (tgt := 124) hx hb dX10_turnJump_107 (by decide) ?_
        refine go_v (k1 := 0) (n1 := 0) (wr := [(tls, .inl (ct 1, 4001, .inl g_tls))]) [0, 1, 2] [3] (rn_V (As := [.int 0]) (rest := []) (c_X10_putGoing l D ct tl (0 : Int32) tls o0 p0 x_tl_3 x_tl_4 o0r x_o0_1 g_o0r h_x_tl_3 (rg_w h_x_tl_4 (by decide)) h_x_o0_1 _) (cb_of (n := 1) hn mw_1349 mw_10 mw_1346 mhX10_putGoing ⟨(Nat.le_of_ble_eq_true rfl), (Nat.le_of_ble_eq_true rfl)⟩) hx hb hml hown hn hK hSK hZ hS mw_1348 mw_s156 (ci := 10) (q0 := 0) rfl rfl rfl rfl hl.1 (Nat.le_of_ble_eq_true rfl) dX10_turnJump_124 ⟨(Nat.le_of_ble_eq_true rfl), (Nat.le_of_ble_eq_true rfl)⟩) hP hD hS hA rfl rfl (by decide) (by decide) (by decide) (Nat.le_of_ble_eq_true rfl) (Nat.le_of_ble_eq_true rfl) (fun u124_2 H locs hp124_3 hP hD hS => ?_)
        obtain ⟨y_tl_4124_4, k_o0r124_5⟩ := u124_2
        obtain ⟨hp124_6, hp124_7⟩ := hp124_3
        have hp124_6 : rg y_tl_4124_4 1 1000001 := hp124_6
        replace hp124_7 : FF (y_tl_4124_4.toInt = x_tl_4.toInt + 1) := hp124_7
        have hP : va_P D vwCl [(tls, .inl (ct 1, 4001, .inl g_tls)), (tl, .inr (10, [.ref tls, .ref o0, .ref p0, .int x_tl_3, .int y_tl_4124_4])), (o0, .inr (5, [.ref o0r, .int x_o0_1])), (o0r, .inl (ct 1, 60000, .inl k_o0r124_5))] _ := hP
        have hD : va_D A [(tls, .inl (ct 1, 4001, .inl g_tls)), (tl, .inr (10, [.ref tls, .ref o0, .ref p0, .int x_tl_3, .int y_tl_4124_4])), (o0, .inr (5, [.ref o0r, .int x_o0_1])), (o0r, .inl (ct 1, 60000, .inl k_o0r124_5))] := hD
        exact endq_v hQ hx hb hr hlocks dX10_turnJump_127 (y_tl_4124_4, k_o0r124_5) ⟨hp124_6, (show x_tl_4.toInt + 1 ≤ y_tl_4124_4.toInt ∧ y_tl_4124_4.toInt ≤ x_tl_4.toInt + 7 by have q0 := FF.out hp124_7; omega), (show y_tl_4124_4.toInt = x_tl_4.toInt + ((d : Nat) : Int) by have q0 := FF.out hk80_1; have q1 := FF.out hp124_7; omega)⟩ hP hD hS [1, 2, 3, 0] rfl (by decide) rfl (Nat.le_of_ble_eq_true rfl) (Nat.le_of_ble_eq_true rfl)
  · have t9_2 := FF.mk (i_ne c9_1)
    refine lv_lload_n hx hb dX10_turnJump_12 rfl (lv_at hl 2 rfl) ?_
    refine go_i (k1 := 0) (n1 := 0) (wr := [(tl, .inr (10, [.ref tls, .ref o0, .ref p0, .int x_tl_3, .int x_tl_4])), (o0, .inr (5, [.ref o0r, .int x_o0_1])), (o0r, .inl (ct 1, 60000, .inl g_o0r)), (tls, .inl (ct 1, 4001, .inl g_tls))]) [] [0, 1, 2, 3] (rn_SN (As := [.long v0]) (rest := []) (c_X7_dOf l D ct v0  _) (cn_of (n := 1) hn mw_986 mw_7 mw_1305 mhX7_dOf ⟨(Nat.le_of_ble_eq_true rfl), (Nat.le_of_ble_eq_true rfl)⟩) hx hb hml hown hn hK hSK hZ hS mw_985 rfl hl.1 (Nat.le_of_ble_eq_true rfl) dX10_turnJump_13 ⟨(Nat.le_of_ble_eq_true rfl), (Nat.le_of_ble_eq_true rfl)⟩) hP hD hS hA rfl rfl (by decide) (by decide) (by decide) (Nat.le_of_ble_eq_true rfl) (Nat.le_of_ble_eq_true rfl) (fun r13_1 u13_2 H locs hp13_3 hP hD hS => ?_)
    obtain ⟨hp13_4, hp13_5⟩ := hp13_3
    have hp13_4 : rg r13_1 0 15 := hp13_4
    replace hp13_5 : FF (r13_1.toInt = (v0.toInt / 256) % 16) := hp13_5
    have hP : va_P D vwCl [(tl, .inr (10, [.ref tls, .ref o0, .ref p0, .int x_tl_3, .int x_tl_4])), (o0, .inr (5, [.ref o0r, .int x_o0_1])), (o0r, .inl (ct 1, 60000, .inl g_o0r)), (tls, .inl (ct 1, 4001, .inl g_tls))] _ := hP
    have hD : va_D A [(tl, .inr (10, [.ref tls, .ref o0, .ref p0, .int x_tl_3, .int x_tl_4])), (o0, .inr (5, [.ref o0r, .int x_o0_1])), (o0r, .inl (ct 1, 60000, .inl g_o0r)), (tls, .inl (ct 1, 4001, .inl g_tls))] := hD
    refine go_i (k1 := 0) (n1 := 0) (wr := [(tl, .inr (10, [.ref tls, .ref o0, .ref p0, .int x_tl_3, .int x_tl_4])), (o0, .inr (5, [.ref o0r, .int x_o0_1])), (o0r, .inl (ct 1, 60000, .inl g_o0r)), (tls, .inl (ct 1, 4001, .inl g_tls))]) [] [0, 1, 2, 3] (rn_S (As := [.int r13_1]) (rest := []) (c_X10_placeOf l D ct r13_1  _) (cb_of (n := 1) hn mw_1308 mw_10 mw_1306 mhX10_placeOf ⟨(Nat.le_of_ble_eq_true rfl), (Nat.le_of_ble_eq_true rfl)⟩) hx hb hml hown hn hK hSK hZ hS mw_1307 rfl hl.1 (Nat.le_of_ble_eq_true rfl) dX10_turnJump_16 ⟨(Nat.le_of_ble_eq_true rfl), (Nat.le_of_ble_eq_true rfl)⟩) hP hD hS hA rfl rfl (by decide) (by decide) (by decide) (Nat.le_of_ble_eq_true rfl) (Nat.le_of_ble_eq_true rfl) (fun r16_1 u16_2 H locs hp16_3 hP hD hS => ?_)
    have hP : va_P D vwCl [(tl, .inr (10, [.ref tls, .ref o0, .ref p0, .int x_tl_3, .int x_tl_4])), (o0, .inr (5, [.ref o0r, .int x_o0_1])), (o0r, .inl (ct 1, 60000, .inl g_o0r)), (tls, .inl (ct 1, 4001, .inl g_tls))] _ := hP
    have hD : va_D A [(tl, .inr (10, [.ref tls, .ref o0, .ref p0, .int x_tl_3, .int x_tl_4])), (o0, .inr (5, [.ref o0r, .int x_o0_1])), (o0r, .inl (ct 1, 60000, .inl g_o0r)), (tls, .inl (ct 1, 4001, .inl g_tls))] := hD
    refine lv_istore (lv' := [(5, .int r16_1), (4, .int r1_1), (0, .ref tl), (1, .long v0), (3, .int v1)]) hx hb dX10_turnJump_19 hl (by decide) rfl (fun ls hl => ?_)
    refine lv_aload_n hx hb dX10_turnJump_21 rfl (lv_at hl 2 rfl) ?_
    refine lv_lload_n hx hb dX10_turnJump_22 rfl (lv_at hl 3 rfl) ?_
    refine go_i (k1 := 0) (n1 := 0) (wr := [(tls, .inl (ct 1, 4001, .inl g_tls))]) [0, 1, 2] [3] (rn_V (As := [.long v0]) (rest := []) (c_X10_putSide_w l D ct cc kk tl v0 tls o0 p0 x_tl_3 x_tl_4 o0r x_o0_1 g_o0r h_x_tl_3 (rg_w h_x_tl_4 (by decide)) h_x_o0_1 (FF.out hq0) (FF.out hq1) _) (cb_of (n := 1) hn mw_1333 mw_10 mw_1330 mhX10_putSide ⟨(Nat.le_of_ble_eq_true rfl), (Nat.le_of_ble_eq_true rfl)⟩) hx hb hml hown hn hK hSK hZ hS mw_1332 mw_s152 (ci := 10) (q0 := 0) rfl rfl rfl rfl hl.1 (Nat.le_of_ble_eq_true rfl) dX10_turnJump_23 ⟨(Nat.le_of_ble_eq_true rfl), (Nat.le_of_ble_eq_true rfl)⟩) hP hD hS hA rfl rfl (by decide) (by decide) (by decide) (Nat.le_of_ble_eq_true rfl) (Nat.le_of_ble_eq_true rfl) (fun r23_1 u23_2 H locs hp23_3 hP hD hS => ?_)
    obtain ⟨y_tl_423_4, k_o0r23_5⟩ := u23_2
    obtain ⟨hp23_6, hp23_7, hp23_8, hp23_9, hp23_10⟩ := hp23_3
    have hp23_6 : rg y_tl_423_4 0 1000001 := hp23_6
    replace hp23_7 : FF (x_tl_4.toInt + 0 ≤ y_tl_423_4.toInt ∧ y_tl_423_4.toInt ≤ x_tl_4.toInt + 2) := hp23_7
    replace hp23_8 : FF ((cc.toInt / 8) % 2 = 1 → y_tl_423_4.toInt = x_tl_4.toInt) := hp23_8
    replace hp23_9 : FF ((cc.toInt / 8) % 2 = 0 ∧ -2048 ≤ kk.toInt ∧ kk.toInt ≤ 2047 → y_tl_423_4.toInt = x_tl_4.toInt + 1) := hp23_9
    replace hp23_10 : FF ((cc.toInt / 8) % 2 = 0 ∧ (kk.toInt < -2048 ∨ 2047 < kk.toInt) → y_tl_423_4.toInt = x_tl_4.toInt + 2) := hp23_10
    have hP : va_P D vwCl [(tls, .inl (ct 1, 4001, .inl g_tls)), (tl, .inr (10, [.ref tls, .ref o0, .ref p0, .int x_tl_3, .int y_tl_423_4])), (o0, .inr (5, [.ref o0r, .int x_o0_1])), (o0r, .inl (ct 1, 60000, .inl k_o0r23_5))] _ := hP
    have hD : va_D A [(tls, .inl (ct 1, 4001, .inl g_tls)), (tl, .inr (10, [.ref tls, .ref o0, .ref p0, .int x_tl_3, .int y_tl_423_4])), (o0, .inr (5, [.ref o0r, .int x_o0_1])), (o0r, .inl (ct 1, 60000, .inl k_o0r23_5))] := hD
    refine lv_istore (lv' := [(6, .int r23_1), (5, .int r16_1), (4, .int r1_1), (0, .ref tl), (1, .long v0), (3, .int v1)]) hx hb dX10_turnJump_26 hl (by decide) rfl (fun ls hl => ?_)
    refine lv_iload hx hb dX10_turnJump_28 (lv_at hl 2 rfl) ?_
    refine go_i (k1 := 0) (n1 := 0) (wr := [(tls, .inl (ct 1, 4001, .inl g_tls)), (tl, .inr (10, [.ref tls, .ref o0, .ref p0, .int x_tl_3, .int y_tl_423_4])), (o0, .inr (5, [.ref o0r, .int x_o0_1])), (o0r, .inl (ct 1, 60000, .inl k_o0r23_5))]) [] [0, 1, 2, 3] (rn_SN (As := [.int r1_1]) (rest := []) (c_X7_isWide_w l D ct r1_1 hp1_4 _) (cn_of (n := 1) hn mw_1062 mw_7 mw_1309 mhX7_isWide ⟨(Nat.le_of_ble_eq_true rfl), (Nat.le_of_ble_eq_true rfl)⟩) hx hb hml hown hn hK hSK hZ hS mw_1061 rfl hl.1 (Nat.le_of_ble_eq_true rfl) dX10_turnJump_30 ⟨(Nat.le_of_ble_eq_true rfl), (Nat.le_of_ble_eq_true rfl)⟩) hP hD hS hA rfl rfl (by decide) (by decide) (by decide) (Nat.le_of_ble_eq_true rfl) (Nat.le_of_ble_eq_true rfl) (fun r30_1 u30_2 H locs hp30_3 hP hD hS => ?_)
    obtain ⟨hp30_4, hp30_5, hp30_6⟩ := hp30_3
    have hp30_4 : rg r30_1 0 1 := hp30_4
    replace hp30_5 : FF (r30_1.toInt = 1 → r1_1.toInt % 8 = 7 ∨ r1_1.toInt % 8 = 5) := hp30_5
    replace hp30_6 : FF (r30_1.toInt = 0 → ¬ (r1_1.toInt % 8 = 7 ∨ r1_1.toInt % 8 = 5)) := hp30_6
    have hP : va_P D vwCl [(tls, .inl (ct 1, 4001, .inl g_tls)), (tl, .inr (10, [.ref tls, .ref o0, .ref p0, .int x_tl_3, .int y_tl_423_4])), (o0, .inr (5, [.ref o0r, .int x_o0_1])), (o0r, .inl (ct 1, 60000, .inl k_o0r23_5))] _ := hP
    have hD : va_D A [(tls, .inl (ct 1, 4001, .inl g_tls)), (tl, .inr (10, [.ref tls, .ref o0, .ref p0, .int x_tl_3, .int y_tl_423_4])), (o0, .inr (5, [.ref o0r, .int x_o0_1])), (o0r, .inl (ct 1, 60000, .inl k_o0r23_5))] := hD
    refine lv_if_ne (tgt := 68) hx hb dX10_turnJump_33 (by decide) (fun c33_1 => ?_) (fun c33_1 => ?_)
    · have t33_2 := FF.mk (i_ne c33_1)
      have r33_3 : rg r30_1 1 1 := rg_neAl t33_2 hp30_4 (show rg (0 : Int32) 0 0 from rg_l (by decide)) (by decide)
      refine lv_aload_n hx hb dX10_turnJump_68 rfl (lv_at hl 3 rfl) ?_
      refine lv_iload hx hb dX10_turnJump_69 (lv_at hl 2 rfl) ?_
      refine lv_iconst (v := 4) hx hb dX10_turnJump_71 (by decide) ?_
      refine lv_ishr hx hb dX10_turnJump_72 ?_
      refine lv_topi (fun z72_1 ez72_1 => ?_)
      have r72_2 : rg z72_1 0 15 := rg_shr (k := 4) ez72_1 (by decide) hp1_4 (by decide)
      refine lv_iload hx hb dX10_turnJump_73 (lv_at hl 1 rfl) ?_
      refine lv_iload hx hb dX10_turnJump_75 (lv_at hl 0 rfl) ?_
      refine go_v (k1 := 0) (n1 := 0) (wr := [(tls, .inl (ct 1, 4001, .inl g_tls))]) [1, 2, 3] [0] (rn_V (As := [.int z72_1, .int r16_1, .int r23_1]) (rest := []) (c_X10_putPassing_w l D ct tl z72_1 r16_1 r23_1 tls o0 p0 x_tl_3 y_tl_423_4 o0r x_o0_1 k_o0r23_5 h_x_tl_3 (rg_of (show 0 ≤ y_tl_423_4.toInt ∧ y_tl_423_4.toInt ≤ 999900 by have q0 := h_x_tl_4.1; have q1 := h_x_tl_4.2; have q2 := FF.out hp23_7; omega)) h_x_o0_1 _) (cb_of (n := 3) hn mw_1367 mw_10 mw_1364 mhX10_putPassing ⟨(Nat.le_of_ble_eq_true rfl), (Nat.le_of_ble_eq_true rfl)⟩) hx hb hml hown hn hK hSK hZ hS mw_1366 mw_s159 (ci := 10) (q0 := 0) rfl rfl rfl rfl hl.1 (Nat.le_of_ble_eq_true rfl) dX10_turnJump_77 ⟨(Nat.le_of_ble_eq_true rfl), (Nat.le_of_ble_eq_true rfl)⟩) hP hD hS hA rfl rfl (by decide) (by decide) (by decide) (Nat.le_of_ble_eq_true rfl) (Nat.le_of_ble_eq_true rfl) (fun u77_2 H locs hp77_3 hP hD hS => ?_)
      obtain ⟨y_tl_477_4, k_o0r77_5⟩ := u77_2
      obtain ⟨hp77_6, hp77_7, hp77_8, hp77_9⟩ := hp77_3
      have hp77_6 : rg y_tl_477_4 1 1000001 := hp77_6
      replace hp77_7 : FF (y_tl_423_4.toInt + 1 ≤ y_tl_477_4.toInt ∧ y_tl_477_4.toInt ≤ y_tl_423_4.toInt + 2) := hp77_7
      replace hp77_8 : FF (z72_1.toInt = 4 → y_tl_477_4.toInt = y_tl_423_4.toInt + 2) := hp77_8
      replace hp77_9 : FF (z72_1.toInt ≠ 4 → y_tl_477_4.toInt = y_tl_423_4.toInt + 1) := hp77_9
      have hP : va_P D vwCl [(tls, .inl (ct 1, 4001, .inl g_tls)), (tl, .inr (10, [.ref tls, .ref o0, .ref p0, .int x_tl_3, .int y_tl_477_4])), (o0, .inr (5, [.ref o0r, .int x_o0_1])), (o0r, .inl (ct 1, 60000, .inl k_o0r77_5))] _ := hP
      have hD : va_D A [(tls, .inl (ct 1, 4001, .inl g_tls)), (tl, .inr (10, [.ref tls, .ref o0, .ref p0, .int x_tl_3, .int y_tl_477_4])), (o0, .inr (5, [.ref o0r, .int x_o0_1])), (o0r, .inl (ct 1, 60000, .inl k_o0r77_5))] := hD
      have hk80_1 : FF (z72_1.toInt = 4 → ((d : Nat) : Int) + x_tl_4.toInt = y_tl_423_4.toInt + 3) := FF.mk (fun h9 => (Or.elim (show (cc.toInt / 8) % 2 = 1 ∨ ((cc.toInt / 8) % 2 = 0 ∧ (-2048 ≤ kk.toInt ∧ kk.toInt ≤ 2047)) ∨ ((cc.toInt / 8) % 2 = 0 ∧ (kk.toInt < -2048 ∨ 2047 < kk.toInt)) by omega) (fun s0a => (have e9 : ((d : Nat) : Int) = 3 := FF.out tw0_1_1 ⟨(show cc.toInt ≠ 5 by have q0 := (eq_shr (c := 16) (k := 4) ez72_1 (by decide) (by decide)); have q1 := FF.out hk4_1; have q2 := h9; omega), (show (cc.toInt % 8 = 7 ∨ cc.toInt % 8 = 5) by have q0 := r33_3.1; have q1 := r33_3.2; have q2 := FF.out hk4_1; have q3 := FF.out hp30_5; omega), s0a, (show cc.toInt / 16 = 4 by have q0 := (eq_shr (c := 16) (k := 4) ez72_1 (by decide) (by decide)); have q1 := FF.out hk4_1; have q2 := h9; omega)⟩; (show ((d : Nat) : Int) + x_tl_4.toInt = y_tl_423_4.toInt + 3 by have q0 := FF.out hp23_7; have q1 := FF.out hp23_8; have q2 := s0a; have q3 := e9; omega))) (fun rs0a => (Or.elim rs0a (fun s0b => (have e9 : ((d : Nat) : Int) = 4 := FF.out tw0_1_3 ⟨(show cc.toInt ≠ 5 by have q0 := (eq_shr (c := 16) (k := 4) ez72_1 (by decide) (by decide)); have q1 := FF.out hk4_1; have q2 := h9; omega), (show (cc.toInt % 8 = 7 ∨ cc.toInt % 8 = 5) by have q0 := r33_3.1; have q1 := r33_3.2; have q2 := FF.out hk4_1; have q3 := FF.out hp30_5; omega), s0b.1, s0b.2, (show cc.toInt / 16 = 4 by have q0 := (eq_shr (c := 16) (k := 4) ez72_1 (by decide) (by decide)); have q1 := FF.out hk4_1; have q2 := h9; omega)⟩; (show ((d : Nat) : Int) + x_tl_4.toInt = y_tl_423_4.toInt + 3 by have q0 := FF.out hp23_9; have q1 := s0b.1; have q2 := s0b.2; have q3 := e9; omega))) (fun s0c => (have e9 : ((d : Nat) : Int) = 5 := FF.out tw0_1_5 ⟨(show cc.toInt ≠ 5 by have q0 := (eq_shr (c := 16) (k := 4) ez72_1 (by decide) (by decide)); have q1 := FF.out hk4_1; have q2 := h9; omega), (show (cc.toInt % 8 = 7 ∨ cc.toInt % 8 = 5) by have q0 := r33_3.1; have q1 := r33_3.2; have q2 := FF.out hk4_1; have q3 := FF.out hp30_5; omega), s0c.1, s0c.2, (show cc.toInt / 16 = 4 by have q0 := (eq_shr (c := 16) (k := 4) ez72_1 (by decide) (by decide)); have q1 := FF.out hk4_1; have q2 := h9; omega)⟩; (show ((d : Nat) : Int) + x_tl_4.toInt = y_tl_423_4.toInt + 3 by have q0 := FF.out hp23_7; have q1 := FF.out hp23_10; have q2 := s0c.1; have q3 := s0c.2; have q4 := e9; omega)))))))
      have hk80_2 : FF (z72_1.toInt ≠ 4 → ((d : Nat) : Int) + x_tl_4.toInt = y_tl_423_4.toInt + 2) := FF.mk (fun h9 => (Or.elim (show (cc.toInt / 8) % 2 = 1 ∨ ((cc.toInt / 8) % 2 = 0 ∧ (-2048 ≤ kk.toInt ∧ kk.toInt ≤ 2047)) ∨ ((cc.toInt / 8) % 2 = 0 ∧ (kk.toInt < -2048 ∨ 2047 < kk.toInt)) by omega) (fun s0a => (have e9 : ((d : Nat) : Int) = 2 := FF.out tw0_1_2 ⟨(show cc.toInt ≠ 5 by have q0 := FF.out hk4_1; have q1 := FF.out t9_2; have q2 := (show (5 : Int32).toInt = 5 from by decide); omega), (show (cc.toInt % 8 = 7 ∨ cc.toInt % 8 = 5) by have q0 := r33_3.1; have q1 := r33_3.2; have q2 := FF.out hk4_1; have q3 := FF.out hp30_5; omega), s0a, (show cc.toInt / 16 ≠ 4 by have q0 := (eq_shr (c := 16) (k := 4) ez72_1 (by decide) (by decide)); have q1 := FF.out hk4_1; have q2 := h9; omega)⟩; (show ((d : Nat) : Int) + x_tl_4.toInt = y_tl_423_4.toInt + 2 by have q0 := FF.out hp23_7; have q1 := FF.out hp23_8; have q2 := s0a; have q3 := e9; omega))) (fun rs0a => (Or.elim rs0a (fun s0b => (have e9 : ((d : Nat) : Int) = 3 := FF.out tw0_1_4 ⟨(show cc.toInt ≠ 5 by have q0 := FF.out hk4_1; have q1 := FF.out t9_2; have q2 := (show (5 : Int32).toInt = 5 from by decide); omega), (show (cc.toInt % 8 = 7 ∨ cc.toInt % 8 = 5) by have q0 := r33_3.1; have q1 := r33_3.2; have q2 := FF.out hk4_1; have q3 := FF.out hp30_5; omega), s0b.1, s0b.2, (show cc.toInt / 16 ≠ 4 by have q0 := (eq_shr (c := 16) (k := 4) ez72_1 (by decide) (by decide)); have q1 := FF.out hk4_1; have q2 := h9; omega)⟩; (show ((d : Nat) : Int) + x_tl_4.toInt = y_tl_423_4.toInt + 2 by have q0 := FF.out hp23_9; have q1 := s0b.1; have q2 := s0b.2; have q3 := e9; omega))) (fun s0c => (have e9 : ((d : Nat) : Int) = 4 := FF.out tw0_1_6 ⟨(show cc.toInt ≠ 5 by have q0 := FF.out hk4_1; have q1 := FF.out t9_2; have q2 := (show (5 : Int32).toInt = 5 from by decide); omega), (show (cc.toInt % 8 = 7 ∨ cc.toInt % 8 = 5) by have q0 := r33_3.1; have q1 := r33_3.2; have q2 := FF.out hk4_1; have q3 := FF.out hp30_5; omega), s0c.1, s0c.2, (show cc.toInt / 16 ≠ 4 by have q0 := (eq_shr (c := 16) (k := 4) ez72_1 (by decide) (by decide)); have q1 := FF.out hk4_1; have q2 := h9; omega)⟩; (show ((d : Nat) : Int) + x_tl_4.toInt = y_tl_423_4.toInt + 2 by have q0 := FF.out hp23_7; have q1 := FF.out hp23_10; have q2 := s0c.1; have q3 := s0c.2; have q4 := e9; omega)))))))
      refine lv_iload_n hx hb dX10_turnJump_80 rfl (lv_at hl 5 rfl) ?_
      refine lv_iconst (v := 1) hx hb dX10_turnJump_81 (by decide) ?_
      refine lv_iadd hx hb dX10_turnJump_82 ?_
      refine lv_topi (fun z82_1 ez82_1 => ?_)
      refine lv_lload_n hx hb dX10_turnJump_83 rfl (lv_at hl 4 rfl) ?_
      refine go_i (k1 := 0) (n1 := 0) (wr := [(tls, .inl (ct 1, 4001, .inl g_tls)), (tl, .inr (10, [.ref tls, .ref o0, .ref p0, .int x_tl_3, .int y_tl_477_4])), (o0, .inr (5, [.ref o0r, .int x_o0_1])), (o0r, .inl (ct 1, 60000, .inl k_o0r77_5))]) [] [0, 1, 2, 3] (rn_SN (As := [.long v0]) (rest := [.int z82_1]) (c_X7_offOf_w l D ct v0  _) (cn_of (n := 1) hn mw_992 mw_7 mw_1368 mhX7_offOf ⟨(Nat.le_of_ble_eq_true rfl), (Nat.le_of_ble_eq_true rfl)⟩) hx hb hml hown hn hK hSK hZ hS mw_991 rfl hl.1 (Nat.le_of_ble_eq_true rfl) dX10_turnJump_84 ⟨(Nat.le_of_ble_eq_true rfl), (Nat.le_of_ble_eq_true rfl)⟩) hP hD hS hA rfl rfl (by decide) (by decide) (by decide) (Nat.le_of_ble_eq_true rfl) (Nat.le_of_ble_eq_true rfl) (fun r84_1 u84_2 H locs hp84_3 hP hD hS => ?_)
      obtain ⟨hp84_4, hp84_5⟩ := hp84_3
      have hp84_4 : rg r84_1 (-32768) 32767 := hp84_4
      replace hp84_5 : FF (r84_1.toInt = (v0.toInt / 65536 + 32768) % 65536 - 32768) := hp84_5
      have hP : va_P D vwCl [(tls, .inl (ct 1, 4001, .inl g_tls)), (tl, .inr (10, [.ref tls, .ref o0, .ref p0, .int x_tl_3, .int y_tl_477_4])), (o0, .inr (5, [.ref o0r, .int x_o0_1])), (o0r, .inl (ct 1, 60000, .inl k_o0r77_5))] _ := hP
      have hD : va_D A [(tls, .inl (ct 1, 4001, .inl g_tls)), (tl, .inr (10, [.ref tls, .ref o0, .ref p0, .int x_tl_3, .int y_tl_477_4])), (o0, .inr (5, [.ref o0r, .int x_o0_1])), (o0r, .inl (ct 1, 60000, .inl k_o0r77_5))] := hD
      refine lv_iadd hx hb dX10_turnJump_87 ?_
      refine lv_topi (fun z87_1 ez87_1 => ?_)
      refine lv_istore (lv' := [(5, .int z87_1), (6, .int r23_1), (4, .int r1_1), (0, .ref tl), (1, .long v0), (3, .int v1)]) hx hb dX10_turnJump_88 hl (by decide) rfl (fun ls hl => ?_)
      refine lv_aload_n hx hb dX10_turnJump_90 rfl (lv_at hl 3 rfl) ?_
      refine lv_iload hx hb dX10_turnJump_91 (lv_at hl 0 rfl) ?_
      refine lv_if_lt (tgt := 106) hx hb dX10_turnJump_93 (by decide) (fun c93_1 => ?_) (fun c93_1 => ?_)
      · have t93_2 := FF.mk (i_lt c93_1)
        have r93_3 : rg z87_1 (-2147483648) (-1) := rg_ltA t93_2 (rg_any z87_1) (show rg (0 : Int32) 0 0 from rg_l (by decide)) (by decide)
        refine lv_iconst (v := 0) hx hb dX10_turnJump_106 (by decide) ?_
        refine lv_goto (tgt := 124) hx hb dX10_turnJump_107 (by decide) ?_
        refine go_v (k1 := 0) (n1 := 0) (wr := [(tls, .inl (ct 1, 4001, .inl g_tls))]) [1, 2, 3] [0] (rn_V (As := [.int 0]) (rest := []) (c_X10_putGoing l D ct tl (0 : Int32) tls o0 p0 x_tl_3 y_tl_477_4 o0r x_o0_1 k_o0r77_5 h_x_tl_3 (rg_of (show 0 ≤ y_tl_477_4.toInt ∧ y_tl_477_4.toInt ≤ 999990 by have q0 := h_x_tl_4.1; have q1 := h_x_tl_4.2; have q2 := FF.out hp23_7; have q3 := FF.out hp77_7; omega)) h_x_o0_1 _) (cb_of (n := 1) hn mw_1349 mw_10 mw_1346 mhX10_putGoing ⟨(Nat.le_of_ble_eq_true rfl), (Nat.le_of_ble_eq_true rfl)⟩) hx hb hml hown hn hK hSK hZ hS mw_1348 mw_s156 (ci := 10) (q0 := 0) rfl rfl rfl rfl hl.1 (Nat.le_of_ble_eq_true rfl) dX10_turnJump_124 ⟨(Nat.le_of_ble_eq_true rfl), (Nat.le_of_ble_eq_true rfl)⟩) hP hD hS hA rfl rfl (by decide) (by decide) (by decide) (Nat.le_of_ble_eq_true rfl) (Nat.le_of_ble_eq_true rfl) (fun u124_2 H locs hp124_3 hP hD hS => ?_)
        obtain ⟨y_tl_4124_4, k_o0r124_5⟩ := u124_2
        obtain ⟨hp124_6, hp124_7⟩ := hp124_3
        have hp124_6 : rg y_tl_4124_4 1 1000001 := hp124_6
        replace hp124_7 : FF (y_tl_4124_4.toInt = y_tl_477_4.toInt + 1) := hp124_7
        have hP : va_P D vwCl [(tls, .inl (ct 1, 4001, .inl g_tls)), (tl, .inr (10, [.ref tls, .ref o0, .ref p0, .int x_tl_3, .int y_tl_4124_4])), (o0, .inr (5, [.ref o0r, .int x_o0_1])), (o0r, .inl (ct 1, 60000, .inl k_o0r124_5))] _ := hP
        have hD : va_D A [(tls, .inl (ct 1, 4001, .inl g_tls)), (tl, .inr (10, [.ref tls, .ref o0, .ref p0, .int x_tl_3, .int y_tl_4124_4])), (o0, .inr (5, [.ref o0r, .int x_o0_1])), (o0r, .inl (ct 1, 60000, .inl k_o0r124_5))] := hD
        exact endq_v hQ hx hb hr hlocks dX10_turnJump_127 (y_tl_4124_4, k_o0r124_5) ⟨hp124_6, (show x_tl_4.toInt + 1 ≤ y_tl_4124_4.toInt ∧ y_tl_4124_4.toInt ≤ x_tl_4.toInt + 7 by have q0 := FF.out hp23_7; have q1 := FF.out hp77_7; have q2 := FF.out hp124_7; omega), (show y_tl_4124_4.toInt = x_tl_4.toInt + ((d : Nat) : Int) by have q0 := FF.out hp77_7; have q1 := FF.out hp77_8; have q2 := FF.out hp77_9; have q3 := FF.out hk80_1; have q4 := FF.out hk80_2; have q5 := FF.out hp124_7; omega)⟩ hP hD hS [1, 2, 3, 0] rfl (by decide) rfl (Nat.le_of_ble_eq_true rfl) (Nat.le_of_ble_eq_true rfl)
      · have t93_2 := FF.mk (i_nlt c93_1)
        have r93_3 : rg z87_1 0 2147483647 := rg_leB t93_2 (show rg (0 : Int32) 0 0 from rg_l (by decide)) (rg_any z87_1) (by decide)
        refine lv_iload hx hb dX10_turnJump_96 (lv_at hl 0 rfl) ?_
        refine lv_aload_n hx hb dX10_turnJump_98 rfl (lv_at hl 3 rfl) ?_
        refine va_get (D := D) (ci := 10) (v := .ref tls) (C := RX10) (T := TX10) (N := 5) hx hb (htX10 hn) (fun _ h => h) hown hK hP 1 rfl rfl 0 (by decide) (hn.get mw_288 rfl) (fun _ h9 => h9) rfl dX10_turnJump_99 ?_
        refine va_alen (v := 4001) hx hb hK hP 0 1 rfl rfl (show Int32.ofNat 4001 = 4001 by decide) dX10_turnJump_102 ?_
        refine lv_icmp_lt (tgt := 110) hx hb dX10_turnJump_103 (by decide) (fun c103_1 => ?_) (fun c103_1 => ?_)
        · have t103_2 := FF.mk (i_lt c103_1)
          have r103_3 : rg z87_1 0 4000 := rg_ltA t103_2 r93_3 (show rg (4001 : Int32) 4001 4001 from rg_l (by decide)) (by decide)
          refine lv_iconst (v := 4) hx hb dX10_turnJump_110 (by decide) ?_
          refine lv_aload_n hx hb dX10_turnJump_111 rfl (lv_at hl 3 rfl) ?_
          refine va_get (D := D) (ci := 10) (v := .ref tls) (C := RX10) (T := TX10) (N := 5) hx hb (htX10 hn) (fun _ h => h) hown hK hP 1 rfl rfl 0 (by decide) (hn.get mw_288 rfl) (fun _ h9 => h9) rfl dX10_turnJump_112 ?_
          refine lv_iload hx hb dX10_turnJump_115 (lv_at hl 0 rfl) ?_
          have hi117_1 : vp_in z87_1 4001 := (in_rg r103_3 (by decide))
          refine va_iald hx hb hK hP 0 1 rfl rfl hi117_1 dX10_turnJump_117 ?_
          refine lv_topi (fun z117_2 ez117_2 => ?_)
          have r117_3 : rg z117_2 0 1073741824 := Rg_at h_g_tls hi117_1 ez117_2
          refine lv_aload_n hx hb dX10_turnJump_118 rfl (lv_at hl 3 rfl) ?_
          refine va_get (D := D) (ci := 10) (v := .int y_tl_477_4) (C := RX10) (T := TX10) (N := 5) hx hb (htX10 hn) (fun _ h => h) hown hK hP 1 rfl rfl 4 (by decide) (hn.get mw_292 rfl) (fun _ h9 => h9) rfl dX10_turnJump_119 ?_
          refine lv_isub hx hb dX10_turnJump_122 ?_
          refine lv_topi (fun z122_1 ez122_1 => ?_)
          have r122_2 : rg z122_1 (-1000001) 1073741823 := rg_sub ez122_1 r117_3 hp77_6 (by decide)
          refine lv_imul hx hb dX10_turnJump_123 ?_
          refine lv_topi (fun z123_1 ez123_1 => ?_)
          refine go_v (k1 := 0) (n1 := 0) (wr := [(tls, .inl (ct 1, 4001, .inl g_tls))]) [1, 2, 3] [0] (rn_V (As := [.int z123_1]) (rest := []) (c_X10_putGoing l D ct tl z123_1 tls o0 p0 x_tl_3 y_tl_477_4 o0r x_o0_1 k_o0r77_5 h_x_tl_3 (rg_of (show 0 ≤ y_tl_477_4.toInt ∧ y_tl_477_4.toInt ≤ 999990 by have q0 := h_x_tl_4.1; have q1 := h_x_tl_4.2; have q2 := FF.out hp23_7; have q3 := FF.out hp77_7; omega)) h_x_o0_1 _) (cb_of (n := 1) hn mw_1349 mw_10 mw_1346 mhX10_putGoing ⟨(Nat.le_of_ble_eq_true rfl), (Nat.le_of_ble_eq_true rfl)⟩) hx hb hml hown hn hK hSK hZ hS mw_1348 mw_s156 (ci := 10) (q0 := 0) rfl rfl rfl rfl hl.1 (Nat.le_of_ble_eq_true rfl) dX10_turnJump_124 ⟨(Nat.le_of_ble_eq_true rfl), (Nat.le_of_ble_eq_true rfl)⟩) hP hD hS hA rfl rfl (by decide) (by decide) (by decide) (Nat.le_of_ble_eq_true rfl) (Nat.le_of_ble_eq_true rfl) (fun u124_2 H locs hp124_3 hP hD hS => ?_)
          obtain ⟨y_tl_4124_4, k_o0r124_5⟩ := u124_2
          obtain ⟨hp124_6, hp124_7⟩ := hp124_3
          have hp124_6 : rg y_tl_4124_4 1 1000001 := hp124_6
          replace hp124_7 : FF (y_tl_4124_4.toInt = y_tl_477_4.toInt + 1) := hp124_7
          have hP : va_P D vwCl [(tls, .inl (ct 1, 4001, .inl g_tls)), (tl, .inr (10, [.ref tls, .ref o0, .ref p0, .int x_tl_3, .int y_tl_4124_4])), (o0, .inr (5, [.ref o0r, .int x_o0_1])), (o0r, .inl (ct 1, 60000, .inl k_o0r124_5))] _ := hP
          have hD : va_D A [(tls, .inl (ct 1, 4001, .inl g_tls)), (tl, .inr (10, [.ref tls, .ref o0, .ref p0, .int x_tl_3, .int y_tl_4124_4])), (o0, .inr (5, [.ref o0r, .int x_o0_1])), (o0r, .inl (ct 1, 60000, .inl k_o0r124_5))] := hD
          exact endq_v hQ hx hb hr hlocks dX10_turnJump_127 (y_tl_4124_4, k_o0r124_5) ⟨hp124_6, (show x_tl_4.toInt + 1 ≤ y_tl_4124_4.toInt ∧ y_tl_4124_4.toInt ≤ x_tl_4.toInt + 7 by have q0 := FF.out hp23_7; have q1 := FF.out hp77_7; have q2 := FF.out hp124_7; omega), (show y_tl_4124_4.toInt = x_tl_4.toInt + ((d : Nat) : Int) by have q0 := FF.out hp77_7; have q1 := FF.out hp77_8; have q2 := FF.out hp77_9; have q3 := FF.out hk80_1; have q4 := FF.out hk80_2; have q5 := FF.out hp124_7; omega)⟩ hP hD hS [1, 2, 3, 0] rfl (by decide) rfl (Nat.le_of_ble_eq_true rfl) (Nat.le_of_ble_eq_true rfl)
        · have t103_2 := FF.mk (i_nlt c103_1)
          have r103_3 : rg z87_1 4001 2147483647 := rg_leB t103_2 (show rg (4001 : Int32) 4001 4001 from rg_l (by decide)) r93_3 (by decide)
          refine lv_iconst (v := 0) hx hb dX10_turnJump_106 (by decide) ?_
          refine lv_goto (tgt := 124) hx hb dX10_turnJump_107 (by decide) ?_
          refine go_v (k1 := 0) (n1 := 0) (wr := [(tls, .inl (ct 1, 4001, .inl g_tls))]) [1, 2, 3] [0] (rn_V (As := [.int 0]) (rest := []) (c_X10_putGoing l D ct tl (0 : Int32) tls o0 p0 x_tl_3 y_tl_477_4 o0r x_o0_1 k_o0r77_5 h_x_tl_3 (rg_of (show 0 ≤ y_tl_477_4.toInt ∧ y_tl_477_4.toInt ≤ 999990 by have q0 := h_x_tl_4.1; have q1 := h_x_tl_4.2; have q2 := FF.out hp23_7; have q3 := FF.out hp77_7; omega)) h_x_o0_1 _) (cb_of (n := 1) hn mw_1349 mw_10 mw_1346 mhX10_putGoing ⟨(Nat.le_of_ble_eq_true rfl), (Nat.le_of_ble_eq_true rfl)⟩) hx hb hml hown hn hK hSK hZ hS mw_1348 mw_s156 (ci := 10) (q0 := 0) rfl rfl rfl rfl hl.1 (Nat.le_of_ble_eq_true rfl) dX10_turnJump_124 ⟨(Nat.le_of_ble_eq_true rfl), (Nat.le_of_ble_eq_true rfl)⟩) hP hD hS hA rfl rfl (by decide) (by decide) (by decide) (Nat.le_of_ble_eq_true rfl) (Nat.le_of_ble_eq_true rfl) (fun u124_2 H locs hp124_3 hP hD hS => ?_)
          obtain ⟨y_tl_4124_4, k_o0r124_5⟩ := u124_2
          obtain ⟨hp124_6, hp124_7⟩ := hp124_3
          have hp124_6 : rg y_tl_4124_4 1 1000001 := hp124_6
          replace hp124_7 : FF (y_tl_4124_4.toInt = y_tl_477_4.toInt + 1) := hp124_7
          have hP : va_P D vwCl [(tls, .inl (ct 1, 4001, .inl g_tls)), (tl, .inr (10, [.ref tls, .ref o0, .ref p0, .int x_tl_3, .int y_tl_4124_4])), (o0, .inr (5, [.ref o0r, .int x_o0_1])), (o0r, .inl (ct 1, 60000, .inl k_o0r124_5))] _ := hP
          have hD : va_D A [(tls, .inl (ct 1, 4001, .inl g_tls)), (tl, .inr (10, [.ref tls, .ref o0, .ref p0, .int x_tl_3, .int y_tl_4124_4])), (o0, .inr (5, [.ref o0r, .int x_o0_1])), (o0r, .inl (ct 1, 60000, .inl k_o0r124_5))] := hD
          exact endq_v hQ hx hb hr hlocks dX10_turnJump_127 (y_tl_4124_4, k_o0r124_5) ⟨hp124_6, (show x_tl_4.toInt + 1 ≤ y_tl_4124_4.toInt ∧ y_tl_4124_4.toInt ≤ x_tl_4.toInt + 7 by have q0 := FF.out hp23_7; have q1 := FF.out hp77_7; have q2 := FF.out hp124_7; omega), (show y_tl_4124_4.toInt = x_tl_4.toInt + ((d : Nat) : Int) by have q0 := FF.out hp77_7; have q1 := FF.out hp77_8; have q2 := FF.out hp77_9; have q3 := FF.out hk80_1; have q4 := FF.out hk80_2; have q5 := FF.out hp124_7; omega)⟩ hP hD hS [1, 2, 3, 0] rfl (by decide) rfl (Nat.le_of_ble_eq_true rfl) (Nat.le_of_ble_eq_true rfl)
    · have t33_2 := FF.mk (i_eq c33_1)
      have r33_3 : rg r30_1 0 0 := rg_eqA t33_2 hp30_4 (show rg (0 : Int32) 0 0 from rg_l (by decide)) (by decide)
      refine lv_aload_n hx hb dX10_turnJump_36 rfl (lv_at hl 3 rfl) ?_
      refine lv_bipush (v := 27) hx hb dX10_turnJump_37 (by decide) ?_
      refine lv_iconst (v := 0) hx hb dX10_turnJump_39 (by decide) ?_
      refine lv_bipush (v := 6) hx hb dX10_turnJump_40 (by decide) ?_
      refine lv_iload hx hb dX10_turnJump_42 (lv_at hl 1 rfl) ?_
      refine lv_iconst (v := 0) hx hb dX10_turnJump_44 (by decide) ?_
      refine go_v (k1 := 0) (n1 := 0) (wr := [(tls, .inl (ct 1, 4001, .inl g_tls))]) [1, 2, 3] [0] (rn_V (As := [.int 27, .int 0, .int 6, .int r16_1, .int 0]) (rest := []) (c_X10_putImm l D ct tl (27 : Int32) (0 : Int32) (6 : Int32) r16_1 (0 : Int32) tls o0 p0 x_tl_3 y_tl_423_4 o0r x_o0_1 k_o0r23_5 h_x_tl_3 (rg_of (show 0 ≤ y_tl_423_4.toInt ∧ y_tl_423_4.toInt ≤ 999990 by have q0 := h_x_tl_4.1; have q1 := h_x_tl_4.2; have q2 := FF.out hp23_7; omega)) h_x_o0_1 _) (cb_of (n := 5) hn mw_1341 mw_10 mw_1338 mhX10_putImm ⟨(Nat.le_of_ble_eq_true rfl), (Nat.le_of_ble_eq_true rfl)⟩) hx hb hml hown hn hK hSK hZ hS mw_1340 mw_s154 (ci := 10) (q0 := 0) rfl rfl rfl rfl hl.1 (Nat.le_of_ble_eq_true rfl) dX10_turnJump_45 ⟨(Nat.le_of_ble_eq_true rfl), (Nat.le_of_ble_eq_true rfl)⟩) hP hD hS hA rfl rfl (by decide) (by decide) (by decide) (Nat.le_of_ble_eq_true rfl) (Nat.le_of_ble_eq_true rfl) (fun u45_2 H locs hp45_3 hP hD hS => ?_)
      obtain ⟨y_tl_445_4, k_o0r45_5⟩ := u45_2
      obtain ⟨hp45_6, hp45_7⟩ := hp45_3
      have hp45_6 : rg y_tl_445_4 1 1000001 := hp45_6
      replace hp45_7 : FF (y_tl_445_4.toInt = y_tl_423_4.toInt + 1) := hp45_7
      have hP : va_P D vwCl [(tls, .inl (ct 1, 4001, .inl g_tls)), (tl, .inr (10, [.ref tls, .ref o0, .ref p0, .int x_tl_3, .int y_tl_445_4])), (o0, .inr (5, [.ref o0r, .int x_o0_1])), (o0r, .inl (ct 1, 60000, .inl k_o0r45_5))] _ := hP
      have hD : va_D A [(tls, .inl (ct 1, 4001, .inl g_tls)), (tl, .inr (10, [.ref tls, .ref o0, .ref p0, .int x_tl_3, .int y_tl_445_4])), (o0, .inr (5, [.ref o0r, .int x_o0_1])), (o0r, .inl (ct 1, 60000, .inl k_o0r45_5))] := hD
      refine lv_aload_n hx hb dX10_turnJump_48 rfl (lv_at hl 3 rfl) ?_
      refine lv_bipush (v := 27) hx hb dX10_turnJump_49 (by decide) ?_
      refine lv_iconst (v := 0) hx hb dX10_turnJump_51 (by decide) ?_
      refine lv_bipush (v := 7) hx hb dX10_turnJump_52 (by decide) ?_
      refine lv_iload hx hb dX10_turnJump_54 (lv_at hl 0 rfl) ?_
      refine lv_iconst (v := 0) hx hb dX10_turnJump_56 (by decide) ?_
      refine go_v (k1 := 0) (n1 := 0) (wr := [(tls, .inl (ct 1, 4001, .inl g_tls))]) [1, 2, 3] [0] (rn_V (As := [.int 27, .int 0, .int 7, .int r23_1, .int 0]) (rest := []) (c_X10_putImm l D ct tl (27 : Int32) (0 : Int32) (7 : Int32) r23_1 (0 : Int32) tls o0 p0 x_tl_3 y_tl_445_4 o0r x_o0_1 k_o0r45_5 h_x_tl_3 (rg_of (show 0 ≤ y_tl_445_4.toInt ∧ y_tl_445_4.toInt ≤ 999990 by have q0 := h_x_tl_4.1; have q1 := h_x_tl_4.2; have q2 := FF.out hp23_7; have q3 := FF.out hp45_7; omega)) h_x_o0_1 _) (cb_of (n := 5) hn mw_1341 mw_10 mw_1338 mhX10_putImm ⟨(Nat.le_of_ble_eq_true rfl), (Nat.le_of_ble_eq_true rfl)⟩) hx hb hml hown hn hK hSK hZ hS mw_1340 mw_s154 (ci := 10) (q0 := 0) rfl rfl rfl rfl hl.1 (Nat.le_of_ble_eq_true rfl) dX10_turnJump_57 ⟨(Nat.le_of_ble_eq_true rfl), (Nat.le_of_ble_eq_true rfl)⟩) hP hD hS hA rfl rfl (by decide) (by decide) (by decide) (Nat.le_of_ble_eq_true rfl) (Nat.le_of_ble_eq_true rfl) (fun u57_2 H locs hp57_3 hP hD hS => ?_)
      obtain ⟨y_tl_457_4, k_o0r57_5⟩ := u57_2
      obtain ⟨hp57_6, hp57_7⟩ := hp57_3
      have hp57_6 : rg y_tl_457_4 1 1000001 := hp57_6
      replace hp57_7 : FF (y_tl_457_4.toInt = y_tl_445_4.toInt + 1) := hp57_7
      have hP : va_P D vwCl [(tls, .inl (ct 1, 4001, .inl g_tls)), (tl, .inr (10, [.ref tls, .ref o0, .ref p0, .int x_tl_3, .int y_tl_457_4])), (o0, .inr (5, [.ref o0r, .int x_o0_1])), (o0r, .inl (ct 1, 60000, .inl k_o0r57_5))] _ := hP
      have hD : va_D A [(tls, .inl (ct 1, 4001, .inl g_tls)), (tl, .inr (10, [.ref tls, .ref o0, .ref p0, .int x_tl_3, .int y_tl_457_4])), (o0, .inr (5, [.ref o0r, .int x_o0_1])), (o0r, .inl (ct 1, 60000, .inl k_o0r57_5))] := hD
      refine lv_bipush (v := 6) hx hb dX10_turnJump_60 (by decide) ?_
      refine lv_istore (lv' := [(5, .int 6), (6, .int r23_1), (4, .int r1_1), (0, .ref tl), (1, .long v0), (3, .int v1)]) hx hb dX10_turnJump_62 hl (by decide) rfl (fun ls hl => ?_)
      refine lv_bipush (v := 7) hx hb dX10_turnJump_64 (by decide) ?_
      refine lv_istore (lv' := [(6, .int 7), (5, .int 6), (4, .int r1_1), (0, .ref tl), (1, .long v0), (3, .int v1)]) hx hb dX10_turnJump_66 hl (by decide) rfl (fun ls hl => ?_)
      refine lv_aload_n hx hb dX10_turnJump_68 rfl (lv_at hl 3 rfl) ?_
      refine lv_iload hx hb dX10_turnJump_69 (lv_at hl 2 rfl) ?_
      refine lv_iconst (v := 4) hx hb dX10_turnJump_71 (by decide) ?_
      refine lv_ishr hx hb dX10_turnJump_72 ?_
      refine lv_topi (fun z72_1 ez72_1 => ?_)
      have r72_2 : rg z72_1 0 15 := rg_shr (k := 4) ez72_1 (by decide) hp1_4 (by decide)
      refine lv_iload hx hb dX10_turnJump_73 (lv_at hl 1 rfl) ?_
      refine lv_iload hx hb dX10_turnJump_75 (lv_at hl 0 rfl) ?_
      refine go_v (k1 := 0) (n1 := 0) (wr := [(tls, .inl (ct 1, 4001, .inl g_tls))]) [1, 2, 3] [0] (rn_V (As := [.int z72_1, .int 6, .int 7]) (rest := []) (c_X10_putPassing_w l D ct tl z72_1 (6 : Int32) (7 : Int32) tls o0 p0 x_tl_3 y_tl_457_4 o0r x_o0_1 k_o0r57_5 h_x_tl_3 (rg_of (show 0 ≤ y_tl_457_4.toInt ∧ y_tl_457_4.toInt ≤ 999900 by have q0 := h_x_tl_4.1; have q1 := h_x_tl_4.2; have q2 := FF.out hp23_7; have q3 := FF.out hp45_7; have q4 := FF.out hp57_7; omega)) h_x_o0_1 _) (cb_of (n := 3) hn mw_1367 mw_10 mw_1364 mhX10_putPassing ⟨(Nat.le_of_ble_eq_true rfl), (Nat.le_of_ble_eq_true rfl)⟩) hx hb hml hown hn hK hSK hZ hS mw_1366 mw_s159 (ci := 10) (q0 := 0) rfl rfl rfl rfl hl.1 (Nat.le_of_ble_eq_true rfl) dX10_turnJump_77 ⟨(Nat.le_of_ble_eq_true rfl), (Nat.le_of_ble_eq_true rfl)⟩) hP hD hS hA rfl rfl (by decide) (by decide) (by decide) (Nat.le_of_ble_eq_true rfl) (Nat.le_of_ble_eq_true rfl) (fun u77_2 H locs hp77_3 hP hD hS => ?_)
      obtain ⟨y_tl_477_4, k_o0r77_5⟩ := u77_2
      obtain ⟨hp77_6, hp77_7, hp77_8, hp77_9⟩ := hp77_3
      have hp77_6 : rg y_tl_477_4 1 1000001 := hp77_6
      replace hp77_7 : FF (y_tl_457_4.toInt + 1 ≤ y_tl_477_4.toInt ∧ y_tl_477_4.toInt ≤ y_tl_457_4.toInt + 2) := hp77_7
      replace hp77_8 : FF (z72_1.toInt = 4 → y_tl_477_4.toInt = y_tl_457_4.toInt + 2) := hp77_8
      replace hp77_9 : FF (z72_1.toInt ≠ 4 → y_tl_477_4.toInt = y_tl_457_4.toInt + 1) := hp77_9
      have hP : va_P D vwCl [(tls, .inl (ct 1, 4001, .inl g_tls)), (tl, .inr (10, [.ref tls, .ref o0, .ref p0, .int x_tl_3, .int y_tl_477_4])), (o0, .inr (5, [.ref o0r, .int x_o0_1])), (o0r, .inl (ct 1, 60000, .inl k_o0r77_5))] _ := hP
      have hD : va_D A [(tls, .inl (ct 1, 4001, .inl g_tls)), (tl, .inr (10, [.ref tls, .ref o0, .ref p0, .int x_tl_3, .int y_tl_477_4])), (o0, .inr (5, [.ref o0r, .int x_o0_1])), (o0r, .inl (ct 1, 60000, .inl k_o0r77_5))] := hD
      have hk80_1 : FF (z72_1.toInt = 4 → ((d : Nat) : Int) + x_tl_4.toInt = y_tl_457_4.toInt + 3) := FF.mk (fun h9 => (Or.elim (show (cc.toInt / 8) % 2 = 1 ∨ ((cc.toInt / 8) % 2 = 0 ∧ (-2048 ≤ kk.toInt ∧ kk.toInt ≤ 2047)) ∨ ((cc.toInt / 8) % 2 = 0 ∧ (kk.toInt < -2048 ∨ 2047 < kk.toInt)) by omega) (fun s0a => (have e9 : ((d : Nat) : Int) = 5 := FF.out tw0_1_7 ⟨(show cc.toInt ≠ 5 by have q0 := (eq_shr (c := 16) (k := 4) ez72_1 (by decide) (by decide)); have q1 := FF.out hk4_1; have q2 := h9; omega), (show ¬ (cc.toInt % 8 = 7 ∨ cc.toInt % 8 = 5) by have q0 := FF.out hk4_1; have q1 := FF.out hp30_6; have q2 := FF.out t33_2; have q3 := (show (0 : Int32).toInt = 0 from by decide); omega), s0a, (show cc.toInt / 16 = 4 by have q0 := (eq_shr (c := 16) (k := 4) ez72_1 (by decide) (by decide)); have q1 := FF.out hk4_1; have q2 := h9; omega)⟩; (show ((d : Nat) : Int) + x_tl_4.toInt = y_tl_457_4.toInt + 3 by have q0 := FF.out hp23_8; have q1 := FF.out hp45_7; have q2 := FF.out hp57_7; have q3 := s0a; have q4 := e9; omega))) (fun rs0a => (Or.elim rs0a (fun s0b => (have e9 : ((d : Nat) : Int) = 6 := FF.out tw0_1_9 ⟨(show cc.toInt ≠ 5 by have q0 := (eq_shr (c := 16) (k := 4) ez72_1 (by decide) (by decide)); have q1 := FF.out hk4_1; have q2 := h9; omega), (show ¬ (cc.toInt % 8 = 7 ∨ cc.toInt % 8 = 5) by have q0 := FF.out hk4_1; have q1 := FF.out hp30_6; have q2 := FF.out t33_2; have q3 := (show (0 : Int32).toInt = 0 from by decide); omega), s0b.1, s0b.2, (show cc.toInt / 16 = 4 by have q0 := (eq_shr (c := 16) (k := 4) ez72_1 (by decide) (by decide)); have q1 := FF.out hk4_1; have q2 := h9; omega)⟩; (show ((d : Nat) : Int) + x_tl_4.toInt = y_tl_457_4.toInt + 3 by have q0 := FF.out hp23_9; have q1 := FF.out hp45_7; have q2 := FF.out hp57_7; have q3 := s0b.1; have q4 := s0b.2; have q5 := e9; omega))) (fun s0c => (have e9 : ((d : Nat) : Int) = 7 := FF.out tw0_1_11 ⟨(show cc.toInt ≠ 5 by have q0 := (eq_shr (c := 16) (k := 4) ez72_1 (by decide) (by decide)); have q1 := FF.out hk4_1; have q2 := h9; omega), (show ¬ (cc.toInt % 8 = 7 ∨ cc.toInt % 8 = 5) by have q0 := FF.out hk4_1; have q1 := FF.out hp30_6; have q2 := FF.out t33_2; have q3 := (show (0 : Int32).toInt = 0 from by decide); omega), s0c.1, s0c.2, (show cc.toInt / 16 = 4 by have q0 := (eq_shr (c := 16) (k := 4) ez72_1 (by decide) (by decide)); have q1 := FF.out hk4_1; have q2 := h9; omega)⟩; (show ((d : Nat) : Int) + x_tl_4.toInt = y_tl_457_4.toInt + 3 by have q0 := FF.out hp23_7; have q1 := FF.out hp23_10; have q2 := FF.out hp45_7; have q3 := FF.out hp57_7; have q4 := s0c.1; have q5 := s0c.2; have q6 := e9; omega)))))))
      have hk80_2 : FF (z72_1.toInt ≠ 4 → ((d : Nat) : Int) + x_tl_4.toInt = y_tl_457_4.toInt + 2) := FF.mk (fun h9 => (Or.elim (show (cc.toInt / 8) % 2 = 1 ∨ ((cc.toInt / 8) % 2 = 0 ∧ (-2048 ≤ kk.toInt ∧ kk.toInt ≤ 2047)) ∨ ((cc.toInt / 8) % 2 = 0 ∧ (kk.toInt < -2048 ∨ 2047 < kk.toInt)) by omega) (fun s0a => (have e9 : ((d : Nat) : Int) = 4 := FF.out tw0_1_8 ⟨(show cc.toInt ≠ 5 by have q0 := FF.out hk4_1; have q1 := FF.out t9_2; have q2 := (show (5 : Int32).toInt = 5 from by decide); omega), (show ¬ (cc.toInt % 8 = 7 ∨ cc.toInt % 8 = 5) by have q0 := FF.out hk4_1; have q1 := FF.out hp30_6; have q2 := FF.out t33_2; have q3 := (show (0 : Int32).toInt = 0 from by decide); omega), s0a, (show cc.toInt / 16 ≠ 4 by have q0 := (eq_shr (c := 16) (k := 4) ez72_1 (by decide) (by decide)); have q1 := FF.out hk4_1; have q2 := h9; omega)⟩; (show ((d : Nat) : Int) + x_tl_4.toInt = y_tl_457_4.toInt + 2 by have q0 := FF.out hp23_8; have q1 := FF.out hp45_7; have q2 := FF.out hp57_7; have q3 := s0a; have q4 := e9; omega))) (fun rs0a => (Or.elim rs0a (fun s0b => (have e9 : ((d : Nat) : Int) = 5 := FF.out tw0_1_10 ⟨(show cc.toInt ≠ 5 by have q0 := FF.out hk4_1; have q1 := FF.out t9_2; have q2 := (show (5 : Int32).toInt = 5 from by decide); omega), (show ¬ (cc.toInt % 8 = 7 ∨ cc.toInt % 8 = 5) by have q0 := FF.out hk4_1; have q1 := FF.out hp30_6; have q2 := FF.out t33_2; have q3 := (show (0 : Int32).toInt = 0 from by decide); omega), s0b.1, s0b.2, (show cc.toInt / 16 ≠ 4 by have q0 := (eq_shr (c := 16) (k := 4) ez72_1 (by decide) (by decide)); have q1 := FF.out hk4_1; have q2 := h9; omega)⟩; (show ((d : Nat) : Int) + x_tl_4.toInt = y_tl_457_4.toInt + 2 by have q0 := FF.out hp23_9; have q1 := FF.out hp45_7; have q2 := FF.out hp57_7; have q3 := s0b.1; have q4 := s0b.2; have q5 := e9; omega))) (fun s0c => (have e9 : ((d : Nat) : Int) = 6 := FF.out tw0_1_12 ⟨(show cc.toInt ≠ 5 by have q0 := FF.out hk4_1; have q1 := FF.out t9_2; have q2 := (show (5 : Int32).toInt = 5 from by decide); omega), (show ¬ (cc.toInt % 8 = 7 ∨ cc.toInt % 8 = 5) by have q0 := FF.out hk4_1; have q1 := FF.out hp30_6; have q2 := FF.out t33_2; have q3 := (show (0 : Int32).toInt = 0 from by decide); omega), s0c.1, s0c.2, (show cc.toInt / 16 ≠ 4 by have q0 := (eq_shr (c := 16) (k := 4) ez72_1 (by decide) (by decide)); have q1 := FF.out hk4_1; have q2 := h9; omega)⟩; (show ((d : Nat) : Int) + x_tl_4.toInt = y_tl_457_4.toInt + 2 by have q0 := FF.out hp23_7; have q1 := FF.out hp23_10; have q2 := FF.out hp45_7; have q3 := FF.out hp57_7; have q4 := s0c.1; have q5 := s0c.2; have q6 := e9; omega)))))))
      refine lv_iload_n hx hb dX10_turnJump_80 rfl (lv_at hl 5 rfl) ?_
      refine lv_iconst (v := 1) hx hb dX10_turnJump_81 (by decide) ?_
      refine lv_iadd hx hb dX10_turnJump_82 ?_
      refine lv_topi (fun z82_1 ez82_1 => ?_)
      refine lv_lload_n hx hb dX10_turnJump_83 rfl (lv_at hl 4 rfl) ?_
      refine go_i (k1 := 0) (n1 := 0) (wr := [(tls, .inl (ct 1, 4001, .inl g_tls)), (tl, .inr (10, [.ref tls, .ref o0, .ref p0, .int x_tl_3, .int y_tl_477_4])), (o0, .inr (5, [.ref o0r, .int x_o0_1])), (o0r, .inl (ct 1, 60000, .inl k_o0r77_5))]) [] [0, 1, 2, 3] (rn_SN (As := [.long v0]) (rest := [.int z82_1]) (c_X7_offOf_w l D ct v0  _) (cn_of (n := 1) hn mw_992 mw_7 mw_1368 mhX7_offOf ⟨(Nat.le_of_ble_eq_true rfl), (Nat.le_of_ble_eq_true rfl)⟩) hx hb hml hown hn hK hSK hZ hS mw_991 rfl hl.1 (Nat.le_of_ble_eq_true rfl) dX10_turnJump_84 ⟨(Nat.le_of_ble_eq_true rfl), (Nat.le_of_ble_eq_true rfl)⟩) hP hD hS hA rfl rfl (by decide) (by decide) (by decide) (Nat.le_of_ble_eq_true rfl) (Nat.le_of_ble_eq_true rfl) (fun r84_1 u84_2 H locs hp84_3 hP hD hS => ?_)
      obtain ⟨hp84_4, hp84_5⟩ := hp84_3
      have hp84_4 : rg r84_1 (-32768) 32767 := hp84_4
      replace hp84_5 : FF (r84_1.toInt = (v0.toInt / 65536 + 32768) % 65536 - 32768) := hp84_5
      have hP : va_P D vwCl [(tls, .inl (ct 1, 4001, .inl g_tls)), (tl, .inr (10, [.ref tls, .ref o0, .ref p0, .int x_tl_3, .int y_tl_477_4])), (o0, .inr (5, [.ref o0r, .int x_o0_1])), (o0r, .inl (ct 1, 60000, .inl k_o0r77_5))] _ := hP
      have hD : va_D A [(tls, .inl (ct 1, 4001, .inl g_tls)), (tl, .inr (10, [.ref tls, .ref o0, .ref p0, .int x_tl_3, .int y_tl_477_4])), (o0, .inr (5, [.ref o0r, .int x_o0_1])), (o0r, .inl (ct 1, 60000, .inl k_o0r77_5))] := hD
      refine lv_iadd hx hb dX10_turnJump_87 ?_
      refine lv_topi (fun z87_1 ez87_1 => ?_)
      refine lv_istore (lv' := [(5, .int z87_1), (6, .int 7), (4, .int r1_1), (0, .ref tl), (1, .long v0), (3, .int v1)]) hx hb dX10_turnJump_88 hl (by decide) rfl (fun ls hl => ?_)
      refine lv_aload_n hx hb dX10_turnJump_90 rfl (lv_at hl 3 rfl) ?_
      refine lv_iload hx hb dX10_turnJump_91 (lv_at hl 0 rfl) ?_
      refine lv_if_lt (tgt := 106) hx hb dX10_turnJump_93 (by decide) (fun c93_1 => ?_) (fun c93_1 => ?_)
      · have t93_2 := FF.mk (i_lt c93_1)
        have r93_3 : rg z87_1 (-2147483648) (-1) := rg_ltA t93_2 (rg_any z87_1) (show rg (0 : Int32) 0 0 from rg_l (by decide)) (by decide)
        refine lv_iconst (v := 0) hx hb dX10_turnJump_106 (by decide) ?_
        refine lv_goto (tgt := 124) hx hb dX10_turnJump_107 (by decide) ?_
        refine go_v (k1 := 0) (n1 := 0) (wr := [(tls, .inl (ct 1, 4001, .inl g_tls))]) [1, 2, 3] [0] (rn_V (As := [.int 0]) (rest := []) (c_X10_putGoing l D ct tl (0 : Int32) tls o0 p0 x_tl_3 y_tl_477_4 o0r x_o0_1 k_o0r77_5 h_x_tl_3 (rg_of (show 0 ≤ y_tl_477_4.toInt ∧ y_tl_477_4.toInt ≤ 999990 by have q0 := h_x_tl_4.2; have q1 := hp23_6.1; have q2 := FF.out hp23_7; have q3 := FF.out hp45_7; have q4 := FF.out hp57_7; have q5 := FF.out hp77_7; omega)) h_x_o0_1 _) (cb_of (n := 1) hn mw_1349 mw_10 mw_1346 mhX10_putGoing ⟨(Nat.le_of_ble_eq_true rfl), (Nat.le_of_ble_eq_true rfl)⟩) hx hb hml hown hn hK hSK hZ hS mw_1348 mw_s156 (ci := 10) (q0 := 0) rfl rfl rfl rfl hl.1 (Nat.le_of_ble_eq_true rfl) dX10_turnJump_124 ⟨(Nat.le_of_ble_eq_true rfl), (Nat.le_of_ble_eq_true rfl)⟩) hP hD hS hA rfl rfl (by decide) (by decide) (by decide) (Nat.le_of_ble_eq_true rfl) (Nat.le_of_ble_eq_true rfl) (fun u124_2 H locs hp124_3 hP hD hS => ?_)
        obtain ⟨y_tl_4124_4, k_o0r124_5⟩ := u124_2
        obtain ⟨hp124_6, hp124_7⟩ := hp124_3
        have hp124_6 : rg y_tl_4124_4 1 1000001 := hp124_6
        replace hp124_7 : FF (y_tl_4124_4.toInt = y_tl_477_4.toInt + 1) := hp124_7
        have hP : va_P D vwCl [(tls, .inl (ct 1, 4001, .inl g_tls)), (tl, .inr (10, [.ref tls, .ref o0, .ref p0, .int x_tl_3, .int y_tl_4124_4])), (o0, .inr (5, [.ref o0r, .int x_o0_1])), (o0r, .inl (ct 1, 60000, .inl k_o0r124_5))] _ := hP
        have hD : va_D A [(tls, .inl (ct 1, 4001, .inl g_tls)), (tl, .inr (10, [.ref tls, .ref o0, .ref p0, .int x_tl_3, .int y_tl_4124_4])), (o0, .inr (5, [.ref o0r, .int x_o0_1])), (o0r, .inl (ct 1, 60000, .inl k_o0r124_5))] := hD
        exact endq_v hQ hx hb hr hlocks dX10_turnJump_127 (y_tl_4124_4, k_o0r124_5) ⟨hp124_6, (show x_tl_4.toInt + 1 ≤ y_tl_4124_4.toInt ∧ y_tl_4124_4.toInt ≤ x_tl_4.toInt + 7 by have q0 := FF.out hp23_7; have q1 := FF.out hp45_7; have q2 := FF.out hp57_7; have q3 := FF.out hp77_7; have q4 := FF.out hp124_7; omega), (show y_tl_4124_4.toInt = x_tl_4.toInt + ((d : Nat) : Int) by have q0 := FF.out hp77_7; have q1 := FF.out hp77_8; have q2 := FF.out hp77_9; have q3 := FF.out hk80_1; have q4 := FF.out hk80_2; have q5 := FF.out hp124_7; omega)⟩ hP hD hS [1, 2, 3, 0] rfl (by decide) rfl (Nat.le_of_ble_eq_true rfl) (Nat.le_of_ble_eq_true rfl)
      · have t93_2 := FF.mk (i_nlt c93_1)
        have r93_3 : rg z87_1 0 2147483647 := rg_leB t93_2 (show rg (0 : Int32) 0 0 from rg_l (by decide)) (rg_any z87_1) (by decide)
        refine lv_iload hx hb dX10_turnJump_96 (lv_at hl 0 rfl) ?_
        refine lv_aload_n hx hb dX10_turnJump_98 rfl (lv_at hl 3 rfl) ?_
        refine va_get (D := D) (ci := 10) (v := .ref tls) (C := RX10) (T := TX10) (N := 5) hx hb (htX10 hn) (fun _ h => h) hown hK hP 1 rfl rfl 0 (by decide) (hn.get mw_288 rfl) (fun _ h9 => h9) rfl dX10_turnJump_99 ?_
        refine va_alen (v := 4001) hx hb hK hP 0 1 rfl rfl (show Int32.ofNat 4001 = 4001 by decide) dX10_turnJump_102 ?_
        refine lv_icmp_lt (tgt := 110) hx hb dX10_turnJump_103 (by decide) (fun c103_1 => ?_) (fun c103_1 => ?_)
        · have t103_2 := FF.mk (i_lt c103_1)
          have r103_3 : rg z87_1 0 4000 := rg_ltA t103_2 r93_3 (show rg (4001 : Int32) 4001 4001 from rg_l (by decide)) (by decide)
          refine lv_iconst (v := 4) hx hb dX10_turnJump_110 (by decide) ?_
          refine lv_aload_n hx hb dX10_turnJump_111 rfl (lv_at hl 3 rfl) ?_
          refine va_get (D := D) (ci := 10) (v := .ref tls) (C := RX10) (T := TX10) (N := 5) hx hb (htX10 hn) (fun _ h => h) hown hK hP 1 rfl rfl 0 (by decide) (hn.get mw_288 rfl) (fun _ h9 => h9) rfl dX10_turnJump_112 ?_
          refine lv_iload hx hb dX10_turnJump_115 (lv_at hl 0 rfl) ?_
          have hi117_1 : vp_in z87_1 4001 := (in_rg r103_3 (by decide))
          refine va_iald hx hb hK hP 0 1 rfl rfl hi117_1 dX10_turnJump_117 ?_
          refine lv_topi (fun z117_2 ez117_2 => ?_)
          have r117_3 : rg z117_2 0 1073741824 := Rg_at h_g_tls hi117_1 ez117_2
          refine lv_aload_n hx hb dX10_turnJump_118 rfl (lv_at hl 3 rfl) ?_
          refine va_get (D := D) (ci := 10) (v := .int y_tl_477_4) (C := RX10) (T := TX10) (N := 5) hx hb (htX10 hn) (fun _ h => h) hown hK hP 1 rfl rfl 4 (by decide) (hn.get mw_292 rfl) (fun _ h9 => h9) rfl dX10_turnJump_119 ?_
          refine lv_isub hx hb dX10_turnJump_122 ?_
          refine lv_topi (fun z122_1 ez122_1 => ?_)
          have r122_2 : rg z122_1 (-1000001) 1073741823 := rg_sub ez122_1 r117_3 hp77_6 (by decide)
          refine lv_imul hx hb dX10_turnJump_123 ?_
          refine lv_topi (fun z123_1 ez123_1 => ?_)
          refine go_v (k1 := 0) (n1 := 0) (wr := [(tls, .inl (ct 1, 4001, .inl g_tls))]) [1, 2, 3] [0] (rn_V (As := [.int z123_1]) (rest := []) (c_X10_putGoing l D ct tl z123_1 tls o0 p0 x_tl_3 y_tl_477_4 o0r x_o0_1 k_o0r77_5 h_x_tl_3 (rg_of (show 0 ≤ y_tl_477_4.toInt ∧ y_tl_477_4.toInt ≤ 999990 by have q0 := h_x_tl_4.2; have q1 := hp23_6.1; have q2 := FF.out hp23_7; have q3 := FF.out hp45_7; have q4 := FF.out hp57_7; have q5 := FF.out hp77_7; omega)) h_x_o0_1 _) (cb_of (n := 1) hn mw_1349 mw_10 mw_1346 mhX10_putGoing ⟨(Nat.le_of_ble_eq_true rfl), (Nat.le_of_ble_eq_true rfl)⟩) hx hb hml hown hn hK hSK hZ hS mw_1348 mw_s156 (ci := 10) (q0 := 0) rfl rfl rfl rfl hl.1 (Nat.le_of_ble_eq_true rfl) dX10_turnJump_124 ⟨(Nat.le_of_ble_eq_true rfl), (Nat.le_of_ble_eq_true rfl)⟩) hP hD hS hA rfl rfl (by decide) (by decide) (by decide) (Nat.le_of_ble_eq_true rfl) (Nat.le_of_ble_eq_true rfl) (fun u124_2 H locs hp124_3 hP hD hS => ?_)
          obtain ⟨y_tl_4124_4, k_o0r124_5⟩ := u124_2
          obtain ⟨hp124_6, hp124_7⟩ := hp124_3
          have hp124_6 : rg y_tl_4124_4 1 1000001 := hp124_6
          replace hp124_7 : FF (y_tl_4124_4.toInt = y_tl_477_4.toInt + 1) := hp124_7
          have hP : va_P D vwCl [(tls, .inl (ct 1, 4001, .inl g_tls)), (tl, .inr (10, [.ref tls, .ref o0, .ref p0, .int x_tl_3, .int y_tl_4124_4])), (o0, .inr (5, [.ref o0r, .int x_o0_1])), (o0r, .inl (ct 1, 60000, .inl k_o0r124_5))] _ := hP
          have hD : va_D A [(tls, .inl (ct 1, 4001, .inl g_tls)), (tl, .inr (10, [.ref tls, .ref o0, .ref p0, .int x_tl_3, .int y_tl_4124_4])), (o0, .inr (5, [.ref o0r, .int x_o0_1])), (o0r, .inl (ct 1, 60000, .inl k_o0r124_5))] := hD
          exact endq_v hQ hx hb hr hlocks dX10_turnJump_127 (y_tl_4124_4, k_o0r124_5) ⟨hp124_6, (show x_tl_4.toInt + 1 ≤ y_tl_4124_4.toInt ∧ y_tl_4124_4.toInt ≤ x_tl_4.toInt + 7 by have q0 := FF.out hp23_7; have q1 := FF.out hp45_7; have q2 := FF.out hp57_7; have q3 := FF.out hp77_7; have q4 := FF.out hp124_7; omega), (show y_tl_4124_4.toInt = x_tl_4.toInt + ((d : Nat) : Int) by have q0 := FF.out hp77_7; have q1 := FF.out hp77_8; have q2 := FF.out hp77_9; have q3 := FF.out hk80_1; have q4 := FF.out hk80_2; have q5 := FF.out hp124_7; omega)⟩ hP hD hS [1, 2, 3, 0] rfl (by decide) rfl (Nat.le_of_ble_eq_true rfl) (Nat.le_of_ble_eq_true rfl)
        · have t103_2 := FF.mk (i_nlt c103_1)
          have r103_3 : rg z87_1 4001 2147483647 := rg_leB t103_2 (show rg (4001 : Int32) 4001 4001 from rg_l (by decide)) r93_3 (by decide)
          refine lv_iconst (v := 0) hx hb dX10_turnJump_106 (by decide) ?_
          refine lv_goto (tgt := 124) hx hb dX10_turnJump_107 (by decide) ?_
          refine go_v (k1 := 0) (n1 := 0) (wr := [(tls, .inl (ct 1, 4001, .inl g_tls))]) [1, 2, 3] [0] (rn_V (As := [.int 0]) (rest := []) (c_X10_putGoing l D ct tl (0 : Int32) tls o0 p0 x_tl_3 y_tl_477_4 o0r x_o0_1 k_o0r77_5 h_x_tl_3 (rg_of (show 0 ≤ y_tl_477_4.toInt ∧ y_tl_477_4.toInt ≤ 999990 by have q0 := h_x_tl_4.2; have q1 := hp23_6.1; have q2 := FF.out hp23_7; have q3 := FF.out hp45_7; have q4 := FF.out hp57_7; have q5 := FF.out hp77_7; omega)) h_x_o0_1 _) (cb_of (n := 1) hn mw_1349 mw_10 mw_1346 mhX10_putGoing ⟨(Nat.le_of_ble_eq_true rfl), (Nat.le_of_ble_eq_true rfl)⟩) hx hb hml hown hn hK hSK hZ hS mw_1348 mw_s156 (ci := 10) (q0 := 0) rfl rfl rfl rfl hl.1 (Nat.le_of_ble_eq_true rfl) dX10_turnJump_124 ⟨(Nat.le_of_ble_eq_true rfl), (Nat.le_of_ble_eq_true rfl)⟩) hP hD hS hA rfl rfl (by decide) (by decide) (by decide) (Nat.le_of_ble_eq_true rfl) (Nat.le_of_ble_eq_true rfl) (fun u124_2 H locs hp124_3 hP hD hS => ?_)
          obtain ⟨y_tl_4124_4, k_o0r124_5⟩ := u124_2
          obtain ⟨hp124_6, hp124_7⟩ := hp124_3
          have hp124_6 : rg y_tl_4124_4 1 1000001 := hp124_6
          replace hp124_7 : FF (y_tl_4124_4.toInt = y_tl_477_4.toInt + 1) := hp124_7
          have hP : va_P D vwCl [(tls, .inl (ct 1, 4001, .inl g_tls)), (tl, .inr (10, [.ref tls, .ref o0, .ref p0, .int x_tl_3, .int y_tl_4124_4])), (o0, .inr (5, [.ref o0r, .int x_o0_1])), (o0r, .inl (ct 1, 60000, .inl k_o0r124_5))] _ := hP
          have hD : va_D A [(tls, .inl (ct 1, 4001, .inl g_tls)), (tl, .inr (10, [.ref tls, .ref o0, .ref p0, .int x_tl_3, .int y_tl_4124_4])), (o0, .inr (5, [.ref o0r, .int x_o0_1])), (o0r, .inl (ct 1, 60000, .inl k_o0r124_5))] := hD
          exact endq_v hQ hx hb hr hlocks dX10_turnJump_127 (y_tl_4124_4, k_o0r124_5) ⟨hp124_6, (show x_tl_4.toInt + 1 ≤ y_tl_4124_4.toInt ∧ y_tl_4124_4.toInt ≤ x_tl_4.toInt + 7 by have q0 := FF.out hp23_7; have q1 := FF.out hp45_7; have q2 := FF.out hp57_7; have q3 := FF.out hp77_7; have q4 := FF.out hp124_7; omega), (show y_tl_4124_4.toInt = x_tl_4.toInt + ((d : Nat) : Int) by have q0 := FF.out hp77_7; have q1 := FF.out hp77_8; have q2 := FF.out hp77_9; have q3 := FF.out hk80_1; have q4 := FF.out hk80_2; have q5 := FF.out hp124_7; omega)⟩ hP hD hS [1, 2, 3, 0] rfl (by decide) rfl (Nat.le_of_ble_eq_true rfl) (Nat.le_of_ble_eq_true rfl)
set_option maxHeartbeats 2000000 in
theorem c_X10_turnRead_w (l : Launch) (D : va_G) (ct : Nat → ClassId) (d : Nat) (cc : Int32) (kk : Int32) (tl : Nat) (v0 : Int64) (tls : Nat) (o0 : Nat) (p0 : Nat) (x_tl_3 : Int32) (x_tl_4 : Int32) (o0r : Nat) (x_o0_1 : Int32) (g_o0r : Nat → Int32) (h_x_tl_3 : rg x_tl_3 0 1) (h_x_tl_4 : rg x_tl_4 0 999800) (h_x_o0_1 : rg x_o0_1 0 60000) (hq0 : cc.toInt = v0.toInt % 256) (hq1 : kk.toInt = v0.toInt / 4294967296) (hg0 : TWread cc.toInt kk.toInt d) : KV (S := Int32 × (Nat → Int32)) l yX10_turnRead cX10_turnRead 6 none 4 87 D ct [.ref tl, .long v0] [(tl, .inr (10, [.ref tls, .ref o0, .ref p0, .int x_tl_3, .int x_tl_4])), (o0, .inr (5, [.ref o0r, .int x_o0_1])), (o0r, .inl (ct 1, 60000, .inl g_o0r))] 0 0 (fun (u : Int32 × (Nat → Int32)) => match u with | (y_tl_4, k_o0r) => rg y_tl_4 1 1000001 ∧ (y_tl_4.toInt = x_tl_4.toInt + ((d : Nat) : Int))) (fun (u : Int32 × (Nat → Int32)) => match u with | (y_tl_4, k_o0r) => [(tl, .inr (10, [.ref tls, .ref o0, .ref p0, .int x_tl_3, .int y_tl_4])), (o0, .inr (5, [.ref o0r, .int x_o0_1])), (o0r, .inl (ct 1, 60000, .inl k_o0r))]) := by
  refine KVq_of (by decide) (Nat.le_of_ble_eq_true rfl) (fun p e s m below meth c A Q C0 hA H locs hS hP hD hQ ls hl => ?_)
  obtain ⟨hx, hb, hr, hown, hin, hml, hlocks, hn, hK, hZ, hSK⟩ := C0
  have hl : lv_has ls 6 [(0, .ref tl), (1, .long v0)] := hl
  replace hq0 := FF.mk hq0
  replace hq1 := FF.mk hq1
  obtain ⟨tw0_1_0, tw0_1_1, tw0_1_2, tw0_1_3, tw0_1_4, tw0_1_5, tw0_1_6, tw0_1_7, tw0_1_8, tw0_1_9, tw0_1_10, tw0_1_11, tw0_1_12, tw0_1_13, tw0_1_14, tw0_1_15⟩ := hg0
  replace tw0_1_0 := FF.mk tw0_1_0
  replace tw0_1_1 := FF.mk tw0_1_1
  replace tw0_1_2 := FF.mk tw0_1_2
  replace tw0_1_3 := FF.mk tw0_1_3
  replace tw0_1_4 := FF.mk tw0_1_4
  replace tw0_1_5 := FF.mk tw0_1_5
  replace tw0_1_6 := FF.mk tw0_1_6
  replace tw0_1_7 := FF.mk tw0_1_7
  replace tw0_1_8 := FF.mk tw0_1_8
  replace tw0_1_9 := FF.mk tw0_1_9
  replace tw0_1_10 := FF.mk tw0_1_10
  replace tw0_1_11 := FF.mk tw0_1_11
  replace tw0_1_12 := FF.mk tw0_1_12
  replace tw0_1_13 := FF.mk tw0_1_13
  replace tw0_1_14 := FF.mk tw0_1_14
  replace tw0_1_15 := FF.mk tw0_1_15
  refine lv_lload_n hx hb dX10_turnRead_0 rfl (lv_at hl 1 rfl) ?_
  refine go_i (k1 := 0) (n1 := 0) (wr := [(tl, .inr (10, [.ref tls, .ref o0, .ref p0, .int x_tl_3, .int x_tl_4])), (o0, .inr (5, [.ref o0r, .int x_o0_1])), (o0r, .inl (ct 1, 60000, .inl g_o0r))]) [] [0, 1, 2] (rn_SN (As := [.long v0]) (rest := []) (c_X7_codeOf l D ct v0  _) (cn_of (n := 1) hn mw_956 mw_7 mw_1299 mhX7_codeOf ⟨(Nat.le_of_ble_eq_true rfl), (Nat.le_of_ble_eq_true rfl)⟩) hx hb hml hown hn hK hSK hZ hS mw_955 rfl hl.1 (Nat.le_of_ble_eq_true rfl) dX10_turnRead_1 ⟨(Nat.le_of_ble_eq_true rfl), (Nat.le_of_ble_eq_true rfl)⟩) hP hD hS hA rfl rfl (by decide) (by decide) (by decide) (Nat.le_of_ble_eq_true rfl) (Nat.le_of_ble_eq_true rfl) (fun r1_1 u1_2 H locs hp1_3 hP hD hS => ?_)
  obtain ⟨hp1_4, hp1_5⟩ := hp1_3
  have hp1_4 : rg r1_1 0 255 := hp1_4
  replace hp1_5 : FF (r1_1.toInt = v0.toInt % 256) := hp1_5
  have hP : va_P D vwCl [(tl, .inr (10, [.ref tls, .ref o0, .ref p0, .int x_tl_3, .int x_tl_4])), (o0, .inr (5, [.ref o0r, .int x_o0_1])), (o0r, .inl (ct 1, 60000, .inl g_o0r))] _ := hP
  have hD : va_D A [(tl, .inr (10, [.ref tls, .ref o0, .ref p0, .int x_tl_3, .int x_tl_4])), (o0, .inr (5, [.ref o0r, .int x_o0_1])), (o0r, .inl (ct 1, 60000, .inl g_o0r))] := hD
  have hk4_1 : FF (r1_1.toInt = cc.toInt) := FF.mk (by have h1 := FF.out hq0; have h2 := FF.out hp1_5; omega)
  refine lv_istore_n (lv' := [(3, .int r1_1), (0, .ref tl), (1, .long v0)]) hx hb dX10_turnRead_4 rfl hl (by decide) rfl (fun ls hl => ?_)
  refine lv_iload_n hx hb dX10_turnRead_5 rfl (lv_at hl 0 rfl) ?_
  refine go_i (k1 := 0) (n1 := 0) (wr := [(tl, .inr (10, [.ref tls, .ref o0, .ref p0, .int x_tl_3, .int x_tl_4])), (o0, .inr (5, [.ref o0r, .int x_o0_1])), (o0r, .inl (ct 1, 60000, .inl g_o0r))]) [] [0, 1, 2] (rn_SN (As := [.int r1_1]) (rest := []) (c_X7_sizeOf_w l D ct r1_1 hp1_4 _) (cn_of (n := 1) hn mw_1150 mw_7 mw_1374 mhX7_sizeOf ⟨(Nat.le_of_ble_eq_true rfl), (Nat.le_of_ble_eq_true rfl)⟩) hx hb hml hown hn hK hSK hZ hS mw_1149 rfl hl.1 (Nat.le_of_ble_eq_true rfl) dX10_turnRead_6 ⟨(Nat.le_of_ble_eq_true rfl), (Nat.le_of_ble_eq_true rfl)⟩) hP hD hS hA rfl rfl (by decide) (by decide) (by decide) (Nat.le_of_ble_eq_true rfl) (Nat.le_of_ble_eq_true rfl) (fun r6_1 u6_2 H locs hp6_3 hP hD hS => ?_)
  obtain ⟨hp6_4, hp6_5, hp6_6, hp6_7, hp6_8⟩ := hp6_3
  have hp6_4 : rg r6_1 1 8 := hp6_4
  replace hp6_5 : FF ((r1_1.toInt / 8) % 4 = 0 → r6_1.toInt = 4) := hp6_5
  replace hp6_6 : FF ((r1_1.toInt / 8) % 4 = 1 → r6_1.toInt = 2) := hp6_6
  replace hp6_7 : FF ((r1_1.toInt / 8) % 4 = 2 → r6_1.toInt = 1) := hp6_7
  replace hp6_8 : FF ((r1_1.toInt / 8) % 4 = 3 → r6_1.toInt = 8) := hp6_8
  have hP : va_P D vwCl [(tl, .inr (10, [.ref tls, .ref o0, .ref p0, .int x_tl_3, .int x_tl_4])), (o0, .inr (5, [.ref o0r, .int x_o0_1])), (o0r, .inl (ct 1, 60000, .inl g_o0r))] _ := hP
  have hD : va_D A [(tl, .inr (10, [.ref tls, .ref o0, .ref p0, .int x_tl_3, .int x_tl_4])), (o0, .inr (5, [.ref o0r, .int x_o0_1])), (o0r, .inl (ct 1, 60000, .inl g_o0r))] := hD
  refine lv_istore (lv' := [(4, .int r6_1), (3, .int r1_1), (0, .ref tl), (1, .long v0)]) hx hb dX10_turnRead_9 hl (by decide) rfl (fun ls hl => ?_)
  refine lv_aload_n hx hb dX10_turnRead_11 rfl (lv_at hl 2 rfl) ?_
  refine lv_iconst (v := 5) hx hb dX10_turnRead_12 (by decide) ?_
  refine lv_lload_n hx hb dX10_turnRead_13 rfl (lv_at hl 3 rfl) ?_
  refine go_i (k1 := 0) (n1 := 0) (wr := [(tl, .inr (10, [.ref tls, .ref o0, .ref p0, .int x_tl_3, .int x_tl_4])), (o0, .inr (5, [.ref o0r, .int x_o0_1])), (o0r, .inl (ct 1, 60000, .inl g_o0r))]) [] [0, 1, 2] (rn_SN (As := [.long v0]) (rest := [.int 5, .ref tl]) (c_X7_kOf_w l D ct v0  _) (cn_of (n := 1) hn mw_995 mw_7 mw_1311 mhX7_kOf ⟨(Nat.le_of_ble_eq_true rfl), (Nat.le_of_ble_eq_true rfl)⟩) hx hb hml hown hn hK hSK hZ hS mw_994 rfl hl.1 (Nat.le_of_ble_eq_true rfl) dX10_turnRead_14 ⟨(Nat.le_of_ble_eq_true rfl), (Nat.le_of_ble_eq_true rfl)⟩) hP hD hS hA rfl rfl (by decide) (by decide) (by decide) (Nat.le_of_ble_eq_true rfl) (Nat.le_of_ble_eq_true rfl) (fun r14_1 u14_2 H locs hp14_3 hP hD hS => ?_)
  have hp14_4 := hp14_3
  replace hp14_4 : FF (r14_1.toInt = v0.toInt / 4294967296) := hp14_4
  have hP : va_P D vwCl [(tl, .inr (10, [.ref tls, .ref o0, .ref p0, .int x_tl_3, .int x_tl_4])), (o0, .inr (5, [.ref o0r, .int x_o0_1])), (o0r, .inl (ct 1, 60000, .inl g_o0r))] _ := hP
  have hD : va_D A [(tl, .inr (10, [.ref tls, .ref o0, .ref p0, .int x_tl_3, .int x_tl_4])), (o0, .inr (5, [.ref o0r, .int x_o0_1])), (o0r, .inl (ct 1, 60000, .inl g_o0r))] := hD
  have hk17_1 : FF (r14_1.toInt = kk.toInt) := FF.mk (by have h1 := FF.out hq1; have h2 := FF.out hp14_4; omega)
  refine go_v (k1 := 0) (n1 := 0) (wr := []) [0, 1, 2] [] (rn_V (As := [.int 5, .int r14_1]) (rest := []) (c_X10_putNumber_w l D ct tl (5 : Int32) r14_1 tls o0 p0 x_tl_3 x_tl_4 o0r x_o0_1 g_o0r h_x_tl_3 (rg_w h_x_tl_4 (by decide)) h_x_o0_1 _) (cb_of (n := 2) hn mw_1315 mw_10 mw_1312 mhX10_putNumber ⟨(Nat.le_of_ble_eq_true rfl), (Nat.le_of_ble_eq_true rfl)⟩) hx hb hml hown hn hK hSK hZ hS mw_1314 mw_s148 (ci := 10) (q0 := 0) rfl rfl rfl rfl hl.1 (Nat.le_of_ble_eq_true rfl) dX10_turnRead_17 ⟨(Nat.le_of_ble_eq_true rfl), (Nat.le_of_ble_eq_true rfl)⟩) hP hD hS hA rfl rfl (by decide) (by decide) (by decide) (Nat.le_of_ble_eq_true rfl) (Nat.le_of_ble_eq_true rfl) (fun u17_3 H locs hp17_4 hP hD hS => ?_)
  obtain ⟨y_tl_417_5, k_o0r17_6⟩ := u17_3
  obtain ⟨hp17_7, hp17_8, hp17_9, hp17_10⟩ := hp17_4
  have hp17_7 : rg y_tl_417_5 1 1000001 := hp17_7
  replace hp17_8 : FF (x_tl_4.toInt + 1 ≤ y_tl_417_5.toInt ∧ y_tl_417_5.toInt ≤ x_tl_4.toInt + 2) := hp17_8
  replace hp17_9 : FF (-2048 ≤ r14_1.toInt ∧ r14_1.toInt ≤ 2047 → y_tl_417_5.toInt = x_tl_4.toInt + 1) := hp17_9
  replace hp17_10 : FF (r14_1.toInt < -2048 ∨ 2047 < r14_1.toInt → y_tl_417_5.toInt = x_tl_4.toInt + 2) := hp17_10
  have hP : va_P D vwCl [(tl, .inr (10, [.ref tls, .ref o0, .ref p0, .int x_tl_3, .int y_tl_417_5])), (o0, .inr (5, [.ref o0r, .int x_o0_1])), (o0r, .inl (ct 1, 60000, .inl k_o0r17_6))] _ := hP
  have hD : va_D A [(tl, .inr (10, [.ref tls, .ref o0, .ref p0, .int x_tl_3, .int y_tl_417_5])), (o0, .inr (5, [.ref o0r, .int x_o0_1])), (o0r, .inl (ct 1, 60000, .inl k_o0r17_6))] := hD
  refine lv_iload_n hx hb dX10_turnRead_20 rfl (lv_at hl 1 rfl) ?_
  refine lv_bipush (v := 64) hx hb dX10_turnRead_21 (by decide) ?_
  refine lv_icmp_lt (tgt := 43) hx hb dX10_turnRead_23 (by decide) (fun c23_1 => ?_) (fun c23_1 => ?_)
  · have t23_2 := FF.mk (i_lt c23_1)
    have r23_3 : rg r1_1 0 63 := rg_ltA t23_2 hp1_4 (show rg (64 : Int32) 64 64 from rg_l (by decide)) (by decide)
    have hk43_1 : FF (((d : Nat) : Int) + x_tl_4.toInt + 3 = y_tl_417_5.toInt + 8 + 3 * r6_1.toInt) := FF.mk (Or.elim (show (-2048 ≤ kk.toInt ∧ kk.toInt ≤ 2047) ∨ (kk.toInt < -2048 ∨ 2047 < kk.toInt) by omega) (fun s0a => (Or.elim (show (cc.toInt / 8) % 4 = 0 ∨ (cc.toInt / 8) % 4 = 1 ∨ (cc.toInt / 8) % 4 = 2 ∨ (cc.toInt / 8) % 4 = 3 by omega) (fun s1a => (have e9 : ((d : Nat) : Int) = 18 := FF.out tw0_1_4 ⟨s0a, (show cc.toInt < 64 by have q0 := r23_3.2; have q1 := FF.out hk4_1; omega), s1a⟩; (show ((d : Nat) : Int) + x_tl_4.toInt + 3 = y_tl_417_5.toInt + 8 + 3 * r6_1.toInt by have q0 := FF.out hk4_1; have q1 := FF.out hp6_5; have q2 := FF.out hk17_1; have q3 := FF.out hp17_9; have q4 := s0a; have q5 := s1a; have q6 := e9; omega))) (fun rs1a => (Or.elim rs1a (fun s1b => (have e9 : ((d : Nat) : Int) = 12 := FF.out tw0_1_5 ⟨s0a, (show cc.toInt < 64 by have q0 := r23_3.2; have q1 := FF.out hk4_1; omega), s1b⟩; (show ((d : Nat) : Int) + x_tl_4.toInt + 3 = y_tl_417_5.toInt + 8 + 3 * r6_1.toInt by have q0 := FF.out hk4_1; have q1 := FF.out hp6_6; have q2 := FF.out hk17_1; have q3 := FF.out hp17_9; have q4 := s0a; have q5 := s1b; have q6 := e9; omega))) (fun rs1b => (Or.elim rs1b (fun s1c => (have e9 : ((d : Nat) : Int) = 9 := FF.out tw0_1_6 ⟨s0a, (show cc.toInt < 64 by have q0 := r23_3.2; have q1 := FF.out hk4_1; omega), s1c⟩; (show ((d : Nat) : Int) + x_tl_4.toInt + 3 = y_tl_417_5.toInt + 8 + 3 * r6_1.toInt by have q0 := hp6_4.1; have q1 := FF.out hk4_1; have q2 := FF.out hp6_7; have q3 := FF.out hk17_1; have q4 := FF.out hp17_9; have q5 := s0a; have q6 := s1c; have q7 := e9; omega))) (fun s1d => (have e9 : ((d : Nat) : Int) = 30 := FF.out tw0_1_7 ⟨s0a, (show cc.toInt < 64 by have q0 := r23_3.2; have q1 := FF.out hk4_1; omega), s1d⟩; (show ((d : Nat) : Int) + x_tl_4.toInt + 3 = y_tl_417_5.toInt + 8 + 3 * r6_1.toInt by have q0 := FF.out hk4_1; have q1 := FF.out hp6_8; have q2 := FF.out hk17_1; have q3 := FF.out hp17_9; have q4 := s0a; have q5 := s1d; have q6 := e9; omega))))))))) (fun s0b => (Or.elim (show (cc.toInt / 8) % 4 = 0 ∨ (cc.toInt / 8) % 4 = 1 ∨ (cc.toInt / 8) % 4 = 2 ∨ (cc.toInt / 8) % 4 = 3 by omega) (fun s1a => (have e9 : ((d : Nat) : Int) = 19 := FF.out tw0_1_12 ⟨s0b, (show cc.toInt < 64 by have q0 := r23_3.2; have q1 := FF.out hk4_1; omega), s1a⟩; (show ((d : Nat) : Int) + x_tl_4.toInt + 3 = y_tl_417_5.toInt + 8 + 3 * r6_1.toInt by have q0 := FF.out hk4_1; have q1 := FF.out hp6_5; have q2 := FF.out hk17_1; have q3 := FF.out hp17_8; have q4 := FF.out hp17_10; have q5 := s0b; have q6 := s1a; have q7 := e9; omega))) (fun rs1a => (Or.elim rs1a (fun s1b => (have e9 : ((d : Nat) : Int) = 13 := FF.out tw0_1_13 ⟨s0b, (show cc.toInt < 64 by have q0 := r23_3.2; have q1 := FF.out hk4_1; omega), s1b⟩; (show ((d : Nat) : Int) + x_tl_4.toInt + 3 = y_tl_417_5.toInt + 8 + 3 * r6_1.toInt by have q0 := FF.out hk4_1; have q1 := FF.out hp6_6; have q2 := FF.out hk17_1; have q3 := FF.out hp17_8; have q4 := FF.out hp17_10; have q5 := s0b; have q6 := s1b; have q7 := e9; omega))) (fun rs1b => (Or.elim rs1b (fun s1c => (have e9 : ((d : Nat) : Int) = 10 := FF.out tw0_1_14 ⟨s0b, (show cc.toInt < 64 by have q0 := r23_3.2; have q1 := FF.out hk4_1; omega), s1c⟩; (show ((d : Nat) : Int) + x_tl_4.toInt + 3 = y_tl_417_5.toInt + 8 + 3 * r6_1.toInt by have q0 := hp6_4.1; have q1 := FF.out hk4_1; have q2 := FF.out hp6_7; have q3 := FF.out hk17_1; have q4 := FF.out hp17_8; have q5 := FF.out hp17_10; have q6 := s0b; have q7 := s1c; have q8 := e9; omega))) (fun s1d => (have e9 : ((d : Nat) : Int) = 31 := FF.out tw0_1_15 ⟨s0b, (show cc.toInt < 64 by have q0 := r23_3.2; have q1 := FF.out hk4_1; omega), s1d⟩; (show ((d : Nat) : Int) + x_tl_4.toInt + 3 = y_tl_417_5.toInt + 8 + 3 * r6_1.toInt by have q0 := hp6_4.2; have q1 := FF.out hk4_1; have q2 := FF.out hp6_8; have q3 := FF.out hk17_1; have q4 := FF.out hp17_8; have q5 := FF.out hp17_10; have q6 := s0b; have q7 := s1d; have q8 := e9; omega))))))))))
    refine lv_aload_n hx hb dX10_turnRead_43 rfl (lv_at hl 2 rfl) ?_
    refine lv_iconst (v := 5) hx hb dX10_turnRead_44 (by decide) ?_
    refine go_v (k1 := 0) (n1 := 0) (wr := []) [0, 1, 2] [] (rn_V (As := [.int 5]) (rest := []) (c_X10_putCut l D ct tl (5 : Int32) tls o0 p0 x_tl_3 y_tl_417_5 o0r x_o0_1 k_o0r17_6 h_x_tl_3 (rg_of (show 0 ≤ y_tl_417_5.toInt ∧ y_tl_417_5.toInt ≤ 999950 by have q0 := h_x_tl_4.1; have q1 := h_x_tl_4.2; have q2 := FF.out hp17_8; omega)) h_x_o0_1 _) (cb_of (n := 1) hn mw_1358 mw_10 mw_1355 mhX10_putCut ⟨(Nat.le_of_ble_eq_true rfl), (Nat.le_of_ble_eq_true rfl)⟩) hx hb hml hown hn hK hSK hZ hS mw_1357 mw_s157 (ci := 10) (q0 := 0) rfl rfl rfl rfl hl.1 (Nat.le_of_ble_eq_true rfl) dX10_turnRead_45 ⟨(Nat.le_of_ble_eq_true rfl), (Nat.le_of_ble_eq_true rfl)⟩) hP hD hS hA rfl rfl (by decide) (by decide) (by decide) (Nat.le_of_ble_eq_true rfl) (Nat.le_of_ble_eq_true rfl) (fun u45_2 H locs hp45_3 hP hD hS => ?_)
    obtain ⟨y_tl_445_4, k_o0r45_5⟩ := u45_2
    obtain ⟨hp45_6, hp45_7⟩ := hp45_3
    have hp45_6 : rg y_tl_445_4 1 1000001 := hp45_6
    replace hp45_7 : FF (y_tl_445_4.toInt = y_tl_417_5.toInt + 2) := hp45_7
    have hP : va_P D vwCl [(tl, .inr (10, [.ref tls, .ref o0, .ref p0, .int x_tl_3, .int y_tl_445_4])), (o0, .inr (5, [.ref o0r, .int x_o0_1])), (o0r, .inl (ct 1, 60000, .inl k_o0r45_5))] _ := hP
    have hD : va_D A [(tl, .inr (10, [.ref tls, .ref o0, .ref p0, .int x_tl_3, .int y_tl_445_4])), (o0, .inr (5, [.ref o0r, .int x_o0_1])), (o0r, .inl (ct 1, 60000, .inl k_o0r45_5))] := hD
    refine lv_aload_n hx hb dX10_turnRead_48 rfl (lv_at hl 2 rfl) ?_
    refine lv_bipush (v := 6) hx hb dX10_turnRead_49 (by decide) ?_
    refine lv_iconst (v := 5) hx hb dX10_turnRead_51 (by decide) ?_
    refine lv_iload hx hb dX10_turnRead_52 (lv_at hl 0 rfl) ?_
    refine go_v (k1 := 0) (n1 := 0) (wr := []) [0, 1, 2] [] (rn_V (As := [.int 6, .int 5, .int r6_1]) (rest := []) (c_X10_putAdd l D ct tl (6 : Int32) (5 : Int32) r6_1 tls o0 p0 x_tl_3 y_tl_445_4 o0r x_o0_1 k_o0r45_5 h_x_tl_3 (rg_of (show 0 ≤ y_tl_445_4.toInt ∧ y_tl_445_4.toInt ≤ 999990 by have q0 := h_x_tl_4.1; have q1 := h_x_tl_4.2; have q2 := FF.out hp17_8; have q3 := FF.out hp45_7; omega)) h_x_o0_1 _) (cb_of (n := 3) hn mw_1325 mw_10 mw_1322 mhX10_putAdd ⟨(Nat.le_of_ble_eq_true rfl), (Nat.le_of_ble_eq_true rfl)⟩) hx hb hml hown hn hK hSK hZ hS mw_1324 mw_s150 (ci := 10) (q0 := 0) rfl rfl rfl rfl hl.1 (Nat.le_of_ble_eq_true rfl) dX10_turnRead_54 ⟨(Nat.le_of_ble_eq_true rfl), (Nat.le_of_ble_eq_true rfl)⟩) hP hD hS hA rfl rfl (by decide) (by decide) (by decide) (Nat.le_of_ble_eq_true rfl) (Nat.le_of_ble_eq_true rfl) (fun u54_2 H locs hp54_3 hP hD hS => ?_)
    obtain ⟨y_tl_454_4, k_o0r54_5⟩ := u54_2
    obtain ⟨hp54_6, hp54_7⟩ := hp54_3
    have hp54_6 : rg y_tl_454_4 1 1000001 := hp54_6
    replace hp54_7 : FF (y_tl_454_4.toInt = y_tl_445_4.toInt + 1) := hp54_7
    have hP : va_P D vwCl [(tl, .inr (10, [.ref tls, .ref o0, .ref p0, .int x_tl_3, .int y_tl_454_4])), (o0, .inr (5, [.ref o0r, .int x_o0_1])), (o0r, .inl (ct 1, 60000, .inl k_o0r54_5))] _ := hP
    have hD : va_D A [(tl, .inr (10, [.ref tls, .ref o0, .ref p0, .int x_tl_3, .int y_tl_454_4])), (o0, .inr (5, [.ref o0r, .int x_o0_1])), (o0r, .inl (ct 1, 60000, .inl k_o0r54_5))] := hD
    refine lv_aload_n hx hb dX10_turnRead_57 rfl (lv_at hl 2 rfl) ?_
    refine lv_bipush (v := 7) hx hb dX10_turnRead_58 (by decide) ?_
    refine lv_bipush (v := 9) hx hb dX10_turnRead_60 (by decide) ?_
    refine lv_bipush (v := 6) hx hb dX10_turnRead_62 (by decide) ?_
    refine lv_bipush (v := 12) hx hb dX10_turnRead_64 (by decide) ?_
    refine go_v (k1 := 0) (n1 := 0) (wr := []) [0, 1, 2] [] (rn_V (As := [.int 7, .int 9, .int 6, .int 12]) (rest := []) (c_X10_putBranch l D ct tl (7 : Int32) (9 : Int32) (6 : Int32) (12 : Int32) tls o0 p0 x_tl_3 y_tl_454_4 o0r x_o0_1 k_o0r54_5 h_x_tl_3 (rg_of (show 0 ≤ y_tl_454_4.toInt ∧ y_tl_454_4.toInt ≤ 999990 by have q0 := h_x_tl_4.1; have q1 := h_x_tl_4.2; have q2 := FF.out hp17_8; have q3 := FF.out hp45_7; have q4 := FF.out hp54_7; omega)) h_x_o0_1 _) (cb_of (n := 4) hn mw_1345 mw_10 mw_1342 mhX10_putBranch ⟨(Nat.le_of_ble_eq_true rfl), (Nat.le_of_ble_eq_true rfl)⟩) hx hb hml hown hn hK hSK hZ hS mw_1344 mw_s155 (ci := 10) (q0 := 0) rfl rfl rfl rfl hl.1 (Nat.le_of_ble_eq_true rfl) dX10_turnRead_66 ⟨(Nat.le_of_ble_eq_true rfl), (Nat.le_of_ble_eq_true rfl)⟩) hP hD hS hA rfl rfl (by decide) (by decide) (by decide) (Nat.le_of_ble_eq_true rfl) (Nat.le_of_ble_eq_true rfl) (fun u66_2 H locs hp66_3 hP hD hS => ?_)
    obtain ⟨y_tl_466_4, k_o0r66_5⟩ := u66_2
    obtain ⟨hp66_6, hp66_7⟩ := hp66_3
    have hp66_6 : rg y_tl_466_4 1 1000001 := hp66_6
    replace hp66_7 : FF (y_tl_466_4.toInt = y_tl_454_4.toInt + 1) := hp66_7
    have hP : va_P D vwCl [(tl, .inr (10, [.ref tls, .ref o0, .ref p0, .int x_tl_3, .int y_tl_466_4])), (o0, .inr (5, [.ref o0r, .int x_o0_1])), (o0r, .inl (ct 1, 60000, .inl k_o0r66_5))] _ := hP
    have hD : va_D A [(tl, .inr (10, [.ref tls, .ref o0, .ref p0, .int x_tl_3, .int y_tl_466_4])), (o0, .inr (5, [.ref o0r, .int x_o0_1])), (o0r, .inl (ct 1, 60000, .inl k_o0r66_5))] := hD
    refine lv_aload_n hx hb dX10_turnRead_69 rfl (lv_at hl 2 rfl) ?_
    refine lv_bipush (v := 10) hx hb dX10_turnRead_70 (by decide) ?_
    refine lv_iconst (v := 0) hx hb dX10_turnRead_72 (by decide) ?_
    refine lv_iconst (v := 0) hx hb dX10_turnRead_73 (by decide) ?_
    refine go_v (k1 := 0) (n1 := 0) (wr := []) [0, 1, 2] [] (rn_V (As := [.int 10, .int 0, .int 0]) (rest := []) (c_X10_putAdd l D ct tl (10 : Int32) (0 : Int32) (0 : Int32) tls o0 p0 x_tl_3 y_tl_466_4 o0r x_o0_1 k_o0r66_5 h_x_tl_3 (rg_of (show 0 ≤ y_tl_466_4.toInt ∧ y_tl_466_4.toInt ≤ 999990 by have q0 := h_x_tl_4.1; have q1 := h_x_tl_4.2; have q2 := FF.out hp17_8; have q3 := FF.out hp45_7; have q4 := FF.out hp54_7; have q5 := FF.out hp66_7; omega)) h_x_o0_1 _) (cb_of (n := 3) hn mw_1325 mw_10 mw_1322 mhX10_putAdd ⟨(Nat.le_of_ble_eq_true rfl), (Nat.le_of_ble_eq_true rfl)⟩) hx hb hml hown hn hK hSK hZ hS mw_1324 mw_s150 (ci := 10) (q0 := 0) rfl rfl rfl rfl hl.1 (Nat.le_of_ble_eq_true rfl) dX10_turnRead_74 ⟨(Nat.le_of_ble_eq_true rfl), (Nat.le_of_ble_eq_true rfl)⟩) hP hD hS hA rfl rfl (by decide) (by decide) (by decide) (Nat.le_of_ble_eq_true rfl) (Nat.le_of_ble_eq_true rfl) (fun u74_2 H locs hp74_3 hP hD hS => ?_)
    obtain ⟨y_tl_474_4, k_o0r74_5⟩ := u74_2
    obtain ⟨hp74_6, hp74_7⟩ := hp74_3
    have hp74_6 : rg y_tl_474_4 1 1000001 := hp74_6
    replace hp74_7 : FF (y_tl_474_4.toInt = y_tl_466_4.toInt + 1) := hp74_7
    have hP : va_P D vwCl [(tl, .inr (10, [.ref tls, .ref o0, .ref p0, .int x_tl_3, .int y_tl_474_4])), (o0, .inr (5, [.ref o0r, .int x_o0_1])), (o0r, .inl (ct 1, 60000, .inl k_o0r74_5))] _ := hP
    have hD : va_D A [(tl, .inr (10, [.ref tls, .ref o0, .ref p0, .int x_tl_3, .int y_tl_474_4])), (o0, .inr (5, [.ref o0r, .int x_o0_1])), (o0r, .inl (ct 1, 60000, .inl k_o0r74_5))] := hD
    refine lv_aload_n hx hb dX10_turnRead_77 rfl (lv_at hl 2 rfl) ?_
    refine lv_bipush (v := 115) hx hb dX10_turnRead_78 (by decide) ?_
    refine go_v (k1 := 0) (n1 := 0) (wr := []) [0, 1, 2] [] (rn_V (As := [.int 115]) (rest := []) (c_X10_put l D ct tl (115 : Int32) tls o0 p0 x_tl_3 y_tl_474_4 o0r x_o0_1 k_o0r74_5 h_x_tl_3 (rg_of (show 0 ≤ y_tl_474_4.toInt ∧ y_tl_474_4.toInt ≤ 1000000 by have q0 := h_x_tl_4.1; have q1 := h_x_tl_4.2; have q2 := FF.out hp17_8; have q3 := FF.out hp45_7; have q4 := FF.out hp54_7; have q5 := FF.out hp66_7; have q6 := FF.out hp74_7; omega)) h_x_o0_1 _) (cb_of (n := 1) hn mw_1319 mw_10 mw_1316 mhX10_put ⟨(Nat.le_of_ble_eq_true rfl), (Nat.le_of_ble_eq_true rfl)⟩) hx hb hml hown hn hK hSK hZ hS mw_1318 mw_s149 (ci := 10) (q0 := 0) rfl rfl rfl rfl hl.1 (Nat.le_of_ble_eq_true rfl) dX10_turnRead_80 ⟨(Nat.le_of_ble_eq_true rfl), (Nat.le_of_ble_eq_true rfl)⟩) hP hD hS hA rfl rfl (by decide) (by decide) (by decide) (Nat.le_of_ble_eq_true rfl) (Nat.le_of_ble_eq_true rfl) (fun u80_2 H locs hp80_3 hP hD hS => ?_)
    obtain ⟨y_tl_480_4, k_o0r80_5⟩ := u80_2
    obtain ⟨hp80_6, hp80_7⟩ := hp80_3
    have hp80_6 : rg y_tl_480_4 1 1000001 := hp80_6
    replace hp80_7 : FF (y_tl_480_4.toInt = y_tl_474_4.toInt + 1) := hp80_7
    have hP : va_P D vwCl [(tl, .inr (10, [.ref tls, .ref o0, .ref p0, .int x_tl_3, .int y_tl_480_4])), (o0, .inr (5, [.ref o0r, .int x_o0_1])), (o0r, .inl (ct 1, 60000, .inl k_o0r80_5))] _ := hP
    have hD : va_D A [(tl, .inr (10, [.ref tls, .ref o0, .ref p0, .int x_tl_3, .int y_tl_480_4])), (o0, .inr (5, [.ref o0r, .int x_o0_1])), (o0r, .inl (ct 1, 60000, .inl k_o0r80_5))] := hD
    refine lv_aload_n hx hb dX10_turnRead_83 rfl (lv_at hl 2 rfl) ?_
    refine lv_bipush (v := 51) hx hb dX10_turnRead_84 (by decide) ?_
    refine lv_iconst (v := 0) hx hb dX10_turnRead_86 (by decide) ?_
    refine lv_iconst (v := 0) hx hb dX10_turnRead_87 (by decide) ?_
    refine lv_iconst (v := 5) hx hb dX10_turnRead_88 (by decide) ?_
    refine lv_iconst (v := 5) hx hb dX10_turnRead_89 (by decide) ?_
    refine lv_bipush (v := 8) hx hb dX10_turnRead_90 (by decide) ?_
    refine go_v (k1 := 0) (n1 := 0) (wr := []) [0, 1, 2] [] (rn_V (As := [.int 51, .int 0, .int 0, .int 5, .int 5, .int 8]) (rest := []) (c_X10_putOp l D ct tl (51 : Int32) (0 : Int32) (0 : Int32) (5 : Int32) (5 : Int32) (8 : Int32) tls o0 p0 x_tl_3 y_tl_480_4 o0r x_o0_1 k_o0r80_5 h_x_tl_3 (rg_of (show 0 ≤ y_tl_480_4.toInt ∧ y_tl_480_4.toInt ≤ 999990 by have q0 := h_x_tl_4.1; have q1 := h_x_tl_4.2; have q2 := FF.out hp17_8; have q3 := FF.out hp45_7; have q4 := FF.out hp54_7; have q5 := FF.out hp66_7; have q6 := FF.out hp74_7; have q7 := FF.out hp80_7; omega)) h_x_o0_1 _) (cb_of (n := 6) hn mw_1329 mw_10 mw_1326 mhX10_putOp ⟨(Nat.le_of_ble_eq_true rfl), (Nat.le_of_ble_eq_true rfl)⟩) hx hb hml hown hn hK hSK hZ hS mw_1328 mw_s151 (ci := 10) (q0 := 0) rfl rfl rfl rfl hl.1 (Nat.le_of_ble_eq_true rfl) dX10_turnRead_92 ⟨(Nat.le_of_ble_eq_true rfl), (Nat.le_of_ble_eq_true rfl)⟩) hP hD hS hA rfl rfl (by decide) (by decide) (by decide) (Nat.le_of_ble_eq_true rfl) (Nat.le_of_ble_eq_true rfl) (fun u92_2 H locs hp92_3 hP hD hS => ?_)
    obtain ⟨y_tl_492_4, k_o0r92_5⟩ := u92_2
    obtain ⟨hp92_6, hp92_7⟩ := hp92_3
    have hp92_6 : rg y_tl_492_4 1 1000001 := hp92_6
    replace hp92_7 : FF (y_tl_492_4.toInt = y_tl_480_4.toInt + 1) := hp92_7
    have hP : va_P D vwCl [(tl, .inr (10, [.ref tls, .ref o0, .ref p0, .int x_tl_3, .int y_tl_492_4])), (o0, .inr (5, [.ref o0r, .int x_o0_1])), (o0r, .inl (ct 1, 60000, .inl k_o0r92_5))] _ := hP
    have hD : va_D A [(tl, .inr (10, [.ref tls, .ref o0, .ref p0, .int x_tl_3, .int y_tl_492_4])), (o0, .inr (5, [.ref o0r, .int x_o0_1])), (o0r, .inl (ct 1, 60000, .inl k_o0r92_5))] := hD
    refine lv_aload_n hx hb dX10_turnRead_95 rfl (lv_at hl 2 rfl) ?_
    refine lv_iconst (v := 3) hx hb dX10_turnRead_96 (by decide) ?_
    refine lv_iconst (v := 4) hx hb dX10_turnRead_97 (by decide) ?_
    refine lv_bipush (v := 10) hx hb dX10_turnRead_98 (by decide) ?_
    refine lv_iconst (v := 5) hx hb dX10_turnRead_100 (by decide) ?_
    refine lv_iconst (v := 0) hx hb dX10_turnRead_101 (by decide) ?_
    refine go_v (k1 := 0) (n1 := 0) (wr := []) [0, 1, 2] [] (rn_V (As := [.int 3, .int 4, .int 10, .int 5, .int 0]) (rest := []) (c_X10_putImm l D ct tl (3 : Int32) (4 : Int32) (10 : Int32) (5 : Int32) (0 : Int32) tls o0 p0 x_tl_3 y_tl_492_4 o0r x_o0_1 k_o0r92_5 h_x_tl_3 (rg_of (show 0 ≤ y_tl_492_4.toInt ∧ y_tl_492_4.toInt ≤ 999990 by have q0 := h_x_tl_4.1; have q1 := h_x_tl_4.2; have q2 := FF.out hp17_8; have q3 := FF.out hp45_7; have q4 := FF.out hp54_7; have q5 := FF.out hp66_7; have q6 := FF.out hp74_7; have q7 := FF.out hp80_7; have q8 := FF.out hp92_7; omega)) h_x_o0_1 _) (cb_of (n := 5) hn mw_1341 mw_10 mw_1338 mhX10_putImm ⟨(Nat.le_of_ble_eq_true rfl), (Nat.le_of_ble_eq_true rfl)⟩) hx hb hml hown hn hK hSK hZ hS mw_1340 mw_s154 (ci := 10) (q0 := 0) rfl rfl rfl rfl hl.1 (Nat.le_of_ble_eq_true rfl) dX10_turnRead_102 ⟨(Nat.le_of_ble_eq_true rfl), (Nat.le_of_ble_eq_true rfl)⟩) hP hD hS hA rfl rfl (by decide) (by decide) (by decide) (Nat.le_of_ble_eq_true rfl) (Nat.le_of_ble_eq_true rfl) (fun u102_2 H locs hp102_3 hP hD hS => ?_)
    obtain ⟨y_tl_4102_4, k_o0r102_5⟩ := u102_2
    obtain ⟨hp102_6, hp102_7⟩ := hp102_3
    have hp102_6 : rg y_tl_4102_4 1 1000001 := hp102_6
    replace hp102_7 : FF (y_tl_4102_4.toInt = y_tl_492_4.toInt + 1) := hp102_7
    have hP : va_P D vwCl [(tl, .inr (10, [.ref tls, .ref o0, .ref p0, .int x_tl_3, .int y_tl_4102_4])), (o0, .inr (5, [.ref o0r, .int x_o0_1])), (o0r, .inl (ct 1, 60000, .inl k_o0r102_5))] _ := hP
    have hD : va_D A [(tl, .inr (10, [.ref tls, .ref o0, .ref p0, .int x_tl_3, .int y_tl_4102_4])), (o0, .inr (5, [.ref o0r, .int x_o0_1])), (o0r, .inl (ct 1, 60000, .inl k_o0r102_5))] := hD
    refine lv_iconst (v := 1) hx hb dX10_turnRead_105 (by decide) ?_
    refine lv_istore (lv' := [(5, .int 1), (4, .int r6_1), (3, .int r1_1), (0, .ref tl), (1, .long v0)]) hx hb dX10_turnRead_106 hl (by decide) rfl (fun ls hl => ?_)
    have b108 : ∀ (n108 : Nat) (j108_l5 : Int32) (j108_ftl_4 : Int32) (j108_co0r : Nat → Int32) (H : Heap) (locs : List Loc) (ls : Array Slot), (rg j108_l5 1 8) → (rg j108_ftl_4 1 1000001) → (FF (j108_ftl_4.toInt + 3 * (r6_1.toInt - j108_l5.toInt) = x_tl_4.toInt + ((d : Nat) : Int))) → (FF (1 ≤ j108_l5.toInt)) → (FF (j108_l5.toInt ≤ r6_1.toInt)) → ((2147483647 : Int) - j108_l5.toInt).toNat < n108 → lv_has ls 6 [(0, .ref tl), (4, .int r6_1), (5, .int j108_l5)] → va_P D vwCl [(tl, .inr (10, [.ref tls, .ref o0, .ref p0, .int x_tl_3, .int j108_ftl_4])), (o0, .inr (5, [.ref o0r, .int x_o0_1])), (o0r, .inl (ct 1, 60000, .inl j108_co0r))] H → va_D A [(tl, .inr (10, [.ref tls, .ref o0, .ref p0, .int x_tl_3, .int j108_ftl_4])), (o0, .inr (5, [.ref o0r, .int x_o0_1])), (o0r, .inl (ct 1, 60000, .inl j108_co0r))] → va_S A s.heap H locs → W p l e ({ frames := 4, cells := 0, slots := 0, locals := 87 }) s m [.ref tl, .long v0].toArray below meth c H locs 0 0 Q (F0 m 108 ls []) := by
      intro n108
      induction n108 with
      | zero => intros; rename_i hms _ _ _ _; exact absurd hms (Nat.not_lt_zero _)
      | succ n108 ih108 =>
        intro j108_l5 j108_ftl_4 j108_co0r H locs ls r108_1001 r108_1002 hi108_1003 hi108_1004 hi108_1005 hms108 hl hP hD hS
        refine lv_iload hx hb dX10_turnRead_108 (lv_at hl 2 rfl) ?_
        refine lv_iload hx hb dX10_turnRead_110 (lv_at hl 1 rfl) ?_
        refine lv_icmp_ge (tgt := 160) hx hb dX10_turnRead_112 (by decide) (fun c112_1 => ?_) (fun c112_1 => ?_)
        · have t112_2 := FF.mk (i_le c112_1)
          exact endq_v hQ hx hb hr hlocks dX10_turnRead_160 (j108_ftl_4, j108_co0r) ⟨r108_1002, (show j108_ftl_4.toInt = x_tl_4.toInt + ((d : Nat) : Int) by have q0 := FF.out hi108_1003; have q1 := FF.out hi108_1005; have q2 := FF.out t112_2; omega)⟩ hP hD hS [0, 1, 2] rfl (by decide) rfl (Nat.le_of_ble_eq_true rfl) (Nat.le_of_ble_eq_true rfl)
        · have t112_2 := FF.mk (i_nle c112_1)
          have r112_3 : rg j108_l5 1 7 := rg_ltA t112_2 r108_1001 hp6_4 (by decide)
          have r112_4 : rg r6_1 2 8 := rg_ltB t112_2 r108_1001 hp6_4 (by decide)
          refine lv_aload_n hx hb dX10_turnRead_115 rfl (lv_at hl 0 rfl) ?_
          refine lv_bipush (v := 19) hx hb dX10_turnRead_116 (by decide) ?_
          refine lv_iconst (v := 1) hx hb dX10_turnRead_118 (by decide) ?_
          refine lv_bipush (v := 10) hx hb dX10_turnRead_119 (by decide) ?_
          refine lv_bipush (v := 10) hx hb dX10_turnRead_121 (by decide) ?_
          refine lv_bipush (v := 8) hx hb dX10_turnRead_123 (by decide) ?_
          refine go_v (k1 := 0) (n1 := 0) (wr := []) [0, 1, 2] [] (rn_V (As := [.int 19, .int 1, .int 10, .int 10, .int 8]) (rest := []) (c_X10_putImm l D ct tl (19 : Int32) (1 : Int32) (10 : Int32) (10 : Int32) (8 : Int32) tls o0 p0 x_tl_3 j108_ftl_4 o0r x_o0_1 j108_co0r h_x_tl_3 (rg_of (show 0 ≤ j108_ftl_4.toInt ∧ j108_ftl_4.toInt ≤ 999990 by have q0 := h_x_tl_4.2; have q1 := r112_3.2; have q2 := hp102_6.1; have q3 := FF.out hp17_8; have q4 := FF.out hk43_1; have q5 := FF.out hp45_7; have q6 := FF.out hp54_7; have q7 := FF.out hp66_7; have q8 := FF.out hp74_7; have q9 := FF.out hp80_7; have q10 := FF.out hp92_7; have q11 := FF.out hp102_7; have q12 := FF.out hi108_1003; have q13 := FF.out hi108_1004; omega)) h_x_o0_1 _) (cb_of (n := 5) hn mw_1341 mw_10 mw_1338 mhX10_putImm ⟨(Nat.le_of_ble_eq_true rfl), (Nat.le_of_ble_eq_true rfl)⟩) hx hb hml hown hn hK hSK hZ hS mw_1340 mw_s154 (ci := 10) (q0 := 0) rfl rfl rfl rfl hl.1 (Nat.le_of_ble_eq_true rfl) dX10_turnRead_125 ⟨(Nat.le_of_ble_eq_true rfl), (Nat.le_of_ble_eq_true rfl)⟩) hP hD hS hA rfl rfl (by decide) (by decide) (by decide) (Nat.le_of_ble_eq_true rfl) (Nat.le_of_ble_eq_true rfl) (fun u125_2 H locs hp125_3 hP hD hS => ?_)
          obtain ⟨y_tl_4125_4, k_o0r125_5⟩ := u125_2
          obtain ⟨hp125_6, hp125_7⟩ := hp125_3
          have hp125_6 : rg y_tl_4125_4 1 1000001 := hp125_6
          replace hp125_7 : FF (y_tl_4125_4.toInt = j108_ftl_4.toInt + 1) := hp125_7
          have hP : va_P D vwCl [(tl, .inr (10, [.ref tls, .ref o0, .ref p0, .int x_tl_3, .int y_tl_4125_4])), (o0, .inr (5, [.ref o0r, .int x_o0_1])), (o0r, .inl (ct 1, 60000, .inl k_o0r125_5))] _ := hP
          have hD : va_D A [(tl, .inr (10, [.ref tls, .ref o0, .ref p0, .int x_tl_3, .int y_tl_4125_4])), (o0, .inr (5, [.ref o0r, .int x_o0_1])), (o0r, .inl (ct 1, 60000, .inl k_o0r125_5))] := hD
          refine lv_aload_n hx hb dX10_turnRead_128 rfl (lv_at hl 0 rfl) ?_
          refine lv_iconst (v := 3) hx hb dX10_turnRead_129 (by decide) ?_
          refine lv_iconst (v := 4) hx hb dX10_turnRead_130 (by decide) ?_
          refine lv_bipush (v := 6) hx hb dX10_turnRead_131 (by decide) ?_
          refine lv_iconst (v := 5) hx hb dX10_turnRead_133 (by decide) ?_
          refine lv_iload hx hb dX10_turnRead_134 (lv_at hl 2 rfl) ?_
          refine go_v (k1 := 0) (n1 := 0) (wr := []) [0, 1, 2] [] (rn_V (As := [.int 3, .int 4, .int 6, .int 5, .int j108_l5]) (rest := []) (c_X10_putImm l D ct tl (3 : Int32) (4 : Int32) (6 : Int32) (5 : Int32) j108_l5 tls o0 p0 x_tl_3 y_tl_4125_4 o0r x_o0_1 k_o0r125_5 h_x_tl_3 (rg_of (show 0 ≤ y_tl_4125_4.toInt ∧ y_tl_4125_4.toInt ≤ 999990 by have q0 := h_x_tl_4.2; have q1 := r112_3.2; have q2 := hp102_6.1; have q3 := FF.out hp17_8; have q4 := FF.out hk43_1; have q5 := FF.out hp45_7; have q6 := FF.out hp54_7; have q7 := FF.out hp66_7; have q8 := FF.out hp74_7; have q9 := FF.out hp80_7; have q10 := FF.out hp92_7; have q11 := FF.out hp102_7; have q12 := FF.out hi108_1003; have q13 := FF.out hi108_1004; have q14 := FF.out hp125_7; omega)) h_x_o0_1 _) (cb_of (n := 5) hn mw_1341 mw_10 mw_1338 mhX10_putImm ⟨(Nat.le_of_ble_eq_true rfl), (Nat.le_of_ble_eq_true rfl)⟩) hx hb hml hown hn hK hSK hZ hS mw_1340 mw_s154 (ci := 10) (q0 := 0) rfl rfl rfl rfl hl.1 (Nat.le_of_ble_eq_true rfl) dX10_turnRead_136 ⟨(Nat.le_of_ble_eq_true rfl), (Nat.le_of_ble_eq_true rfl)⟩) hP hD hS hA rfl rfl (by decide) (by decide) (by decide) (Nat.le_of_ble_eq_true rfl) (Nat.le_of_ble_eq_true rfl) (fun u136_2 H locs hp136_3 hP hD hS => ?_)
          obtain ⟨y_tl_4136_4, k_o0r136_5⟩ := u136_2
          obtain ⟨hp136_6, hp136_7⟩ := hp136_3
          have hp136_6 : rg y_tl_4136_4 1 1000001 := hp136_6
          replace hp136_7 : FF (y_tl_4136_4.toInt = y_tl_4125_4.toInt + 1) := hp136_7
          have hP : va_P D vwCl [(tl, .inr (10, [.ref tls, .ref o0, .ref p0, .int x_tl_3, .int y_tl_4136_4])), (o0, .inr (5, [.ref o0r, .int x_o0_1])), (o0r, .inl (ct 1, 60000, .inl k_o0r136_5))] _ := hP
          have hD : va_D A [(tl, .inr (10, [.ref tls, .ref o0, .ref p0, .int x_tl_3, .int y_tl_4136_4])), (o0, .inr (5, [.ref o0r, .int x_o0_1])), (o0r, .inl (ct 1, 60000, .inl k_o0r136_5))] := hD
          refine lv_aload_n hx hb dX10_turnRead_139 rfl (lv_at hl 0 rfl) ?_
          refine lv_bipush (v := 51) hx hb dX10_turnRead_140 (by decide) ?_
          refine lv_iconst (v := 0) hx hb dX10_turnRead_142 (by decide) ?_
          refine lv_bipush (v := 6) hx hb dX10_turnRead_143 (by decide) ?_
          refine lv_bipush (v := 10) hx hb dX10_turnRead_145 (by decide) ?_
          refine lv_bipush (v := 10) hx hb dX10_turnRead_147 (by decide) ?_
          refine lv_bipush (v := 6) hx hb dX10_turnRead_149 (by decide) ?_
          refine go_v (k1 := 0) (n1 := 0) (wr := []) [0, 1, 2] [] (rn_V (As := [.int 51, .int 0, .int 6, .int 10, .int 10, .int 6]) (rest := []) (c_X10_putOp l D ct tl (51 : Int32) (0 : Int32) (6 : Int32) (10 : Int32) (10 : Int32) (6 : Int32) tls o0 p0 x_tl_3 y_tl_4136_4 o0r x_o0_1 k_o0r136_5 h_x_tl_3 (rg_of (show 0 ≤ y_tl_4136_4.toInt ∧ y_tl_4136_4.toInt ≤ 999990 by have q0 := h_x_tl_4.2; have q1 := r112_3.2; have q2 := hp102_6.1; have q3 := FF.out hp17_8; have q4 := FF.out hk43_1; have q5 := FF.out hp45_7; have q6 := FF.out hp54_7; have q7 := FF.out hp66_7; have q8 := FF.out hp74_7; have q9 := FF.out hp80_7; have q10 := FF.out hp92_7; have q11 := FF.out hp102_7; have q12 := FF.out hi108_1003; have q13 := FF.out hi108_1004; have q14 := FF.out hp125_7; have q15 := FF.out hp136_7; omega)) h_x_o0_1 _) (cb_of (n := 6) hn mw_1329 mw_10 mw_1326 mhX10_putOp ⟨(Nat.le_of_ble_eq_true rfl), (Nat.le_of_ble_eq_true rfl)⟩) hx hb hml hown hn hK hSK hZ hS mw_1328 mw_s151 (ci := 10) (q0 := 0) rfl rfl rfl rfl hl.1 (Nat.le_of_ble_eq_true rfl) dX10_turnRead_151 ⟨(Nat.le_of_ble_eq_true rfl), (Nat.le_of_ble_eq_true rfl)⟩) hP hD hS hA rfl rfl (by decide) (by decide) (by decide) (Nat.le_of_ble_eq_true rfl) (Nat.le_of_ble_eq_true rfl) (fun u151_2 H locs hp151_3 hP hD hS => ?_)
          obtain ⟨y_tl_4151_4, k_o0r151_5⟩ := u151_2
          obtain ⟨hp151_6, hp151_7⟩ := hp151_3
          have hp151_6 : rg y_tl_4151_4 1 1000001 := hp151_6
          replace hp151_7 : FF (y_tl_4151_4.toInt = y_tl_4136_4.toInt + 1) := hp151_7
          have hP : va_P D vwCl [(tl, .inr (10, [.ref tls, .ref o0, .ref p0, .int x_tl_3, .int y_tl_4151_4])), (o0, .inr (5, [.ref o0r, .int x_o0_1])), (o0r, .inl (ct 1, 60000, .inl k_o0r151_5))] _ := hP
          have hD : va_D A [(tl, .inr (10, [.ref tls, .ref o0, .ref p0, .int x_tl_3, .int y_tl_4151_4])), (o0, .inr (5, [.ref o0r, .int x_o0_1])), (o0r, .inl (ct 1, 60000, .inl k_o0r151_5))] := hD
          obtain ⟨x154_1, ex154_1⟩ : ∃ z : Int32, z = j108_l5 + 1 := ⟨_, rfl⟩
          have r154_2 : rg x154_1 2 8 := rg_add ex154_1 r112_3 (show rg (1 : Int32) 1 1 from rg_l (by decide)) (by decide)
          refine lv_iinc (v := x154_1) (lv' := [(5, .int x154_1), (0, .ref tl), (4, .int r6_1)]) hx hb dX10_turnRead_154 hl (k := 2) rfl (by rw [ex154_1]; rfl) (by decide) rfl (fun ls hl => ?_)
          refine lv_goto (tgt := 108) hx hb dX10_turnRead_157 (by decide) ?_
          exact ih108 x154_1 y_tl_4151_4 k_o0r151_5 H locs ls (rg_w r154_2 (by decide)) hp151_6 (show y_tl_4151_4.toInt + 3 * (r6_1.toInt - x154_1.toInt) = x_tl_4.toInt + ((d : Nat) : Int) by have q0 := (eq_add ex154_1 r112_3 (show rg (1 : Int32) 1 1 from rg_l (by decide)) (by decide)); have q1 := FF.out hi108_1003; have q2 := FF.out hp125_7; have q3 := FF.out hp136_7; have q4 := FF.out hp151_7; have q5 := (show (1 : Int32).toInt = 1 from by decide); omega) (show 1 ≤ x154_1.toInt by have q0 := (eq_add ex154_1 r112_3 (show rg (1 : Int32) 1 1 from rg_l (by decide)) (by decide)); have q1 := FF.out hi108_1004; have q2 := (show (1 : Int32).toInt = 1 from by decide); omega) (show x154_1.toInt ≤ r6_1.toInt by have q0 := (eq_add ex154_1 r112_3 (show rg (1 : Int32) 1 1 from rg_l (by decide)) (by decide)); have q1 := FF.out t112_2; have q2 := (show (1 : Int32).toInt = 1 from by decide); omega) (show ((2147483647 : Int) - x154_1.toInt).toNat < n108 by have q0 := r112_3.2; have q1 := (eq_add ex154_1 r112_3 (show rg (1 : Int32) 1 1 from rg_l (by decide)) (by decide)); have q2 := (show (1 : Int32).toInt = 1 from by decide); have q3 := hms108; omega) (lv_sub hl [1, 2, 0] rfl) hP hD hS
    exact b108 _ (1 : Int32) y_tl_4102_4 k_o0r102_5 H locs ls (rg_w (show rg (1 : Int32) 1 1 from rg_l (by decide)) (by decide)) hp102_6 (show y_tl_4102_4.toInt + 3 * (r6_1.toInt - (1 : Int32).toInt) = x_tl_4.toInt + ((d : Nat) : Int) by have q0 := FF.out hk43_1; have q1 := FF.out hp45_7; have q2 := FF.out hp54_7; have q3 := FF.out hp66_7; have q4 := FF.out hp74_7; have q5 := FF.out hp80_7; have q6 := FF.out hp92_7; have q7 := FF.out hp102_7; have q8 := (show (1 : Int32).toInt = 1 from by decide); omega) (show 1 ≤ (1 : Int32).toInt by have q0 := (show (1 : Int32).toInt = 1 from by decide); omega) (show (1 : Int32).toInt ≤ r6_1.toInt by have q0 := hp6_4.1; have q1 := (show (1 : Int32).toInt = 1 from by decide); omega) (Nat.lt_succ_self _) (lv_sub hl [3, 1, 0] rfl) hP hD hS
  · have t23_2 := FF.mk (i_nlt c23_1)
    have r23_3 : rg r1_1 64 255 := rg_leB t23_2 (show rg (64 : Int32) 64 64 from rg_l (by decide)) hp1_4 (by decide)
    refine lv_aload_n hx hb dX10_turnRead_26 rfl (lv_at hl 2 rfl) ?_
    refine lv_bipush (v := 59) hx hb dX10_turnRead_27 (by decide) ?_
    refine lv_iconst (v := 0) hx hb dX10_turnRead_29 (by decide) ?_
    refine lv_iconst (v := 0) hx hb dX10_turnRead_30 (by decide) ?_
    refine lv_iconst (v := 5) hx hb dX10_turnRead_31 (by decide) ?_
    refine lv_iconst (v := 5) hx hb dX10_turnRead_32 (by decide) ?_
    refine lv_lload_n hx hb dX10_turnRead_33 rfl (lv_at hl 3 rfl) ?_
    refine go_i (k1 := 0) (n1 := 0) (wr := [(tl, .inr (10, [.ref tls, .ref o0, .ref p0, .int x_tl_3, .int y_tl_417_5])), (o0, .inr (5, [.ref o0r, .int x_o0_1])), (o0r, .inl (ct 1, 60000, .inl k_o0r17_6))]) [] [0, 1, 2] (rn_SN (As := [.long v0]) (rest := [.int 5, .int 5, .int 0, .int 0, .int 59, .ref tl]) (c_X7_sOf l D ct v0  _) (cn_of (n := 1) hn mw_989 mw_7 mw_1321 mhX7_sOf ⟨(Nat.le_of_ble_eq_true rfl), (Nat.le_of_ble_eq_true rfl)⟩) hx hb hml hown hn hK hSK hZ hS mw_988 rfl hl.1 (Nat.le_of_ble_eq_true rfl) dX10_turnRead_34 ⟨(Nat.le_of_ble_eq_true rfl), (Nat.le_of_ble_eq_true rfl)⟩) hP hD hS hA rfl rfl (by decide) (by decide) (by decide) (Nat.le_of_ble_eq_true rfl) (Nat.le_of_ble_eq_true rfl) (fun r34_1 u34_2 H locs hp34_3 hP hD hS => ?_)
    obtain ⟨hp34_4, hp34_5⟩ := hp34_3
    have hp34_4 : rg r34_1 0 15 := hp34_4
    replace hp34_5 : FF (r34_1.toInt = (v0.toInt / 4096) % 16) := hp34_5
    have hP : va_P D vwCl [(tl, .inr (10, [.ref tls, .ref o0, .ref p0, .int x_tl_3, .int y_tl_417_5])), (o0, .inr (5, [.ref o0r, .int x_o0_1])), (o0r, .inl (ct 1, 60000, .inl k_o0r17_6))] _ := hP
    have hD : va_D A [(tl, .inr (10, [.ref tls, .ref o0, .ref p0, .int x_tl_3, .int y_tl_417_5])), (o0, .inr (5, [.ref o0r, .int x_o0_1])), (o0r, .inl (ct 1, 60000, .inl k_o0r17_6))] := hD
    refine go_i (k1 := 0) (n1 := 0) (wr := [(tl, .inr (10, [.ref tls, .ref o0, .ref p0, .int x_tl_3, .int y_tl_417_5])), (o0, .inr (5, [.ref o0r, .int x_o0_1])), (o0r, .inl (ct 1, 60000, .inl k_o0r17_6))]) [] [0, 1, 2] (rn_S (As := [.int r34_1]) (rest := [.int 5, .int 5, .int 0, .int 0, .int 59, .ref tl]) (c_X10_placeOf l D ct r34_1  _) (cb_of (n := 1) hn mw_1308 mw_10 mw_1306 mhX10_placeOf ⟨(Nat.le_of_ble_eq_true rfl), (Nat.le_of_ble_eq_true rfl)⟩) hx hb hml hown hn hK hSK hZ hS mw_1307 rfl hl.1 (Nat.le_of_ble_eq_true rfl) dX10_turnRead_37 ⟨(Nat.le_of_ble_eq_true rfl), (Nat.le_of_ble_eq_true rfl)⟩) hP hD hS hA rfl rfl (by decide) (by decide) (by decide) (Nat.le_of_ble_eq_true rfl) (Nat.le_of_ble_eq_true rfl) (fun r37_1 u37_2 H locs hp37_3 hP hD hS => ?_)
    have hP : va_P D vwCl [(tl, .inr (10, [.ref tls, .ref o0, .ref p0, .int x_tl_3, .int y_tl_417_5])), (o0, .inr (5, [.ref o0r, .int x_o0_1])), (o0r, .inl (ct 1, 60000, .inl k_o0r17_6))] _ := hP
    have hD : va_D A [(tl, .inr (10, [.ref tls, .ref o0, .ref p0, .int x_tl_3, .int y_tl_417_5])), (o0, .inr (5, [.ref o0r, .int x_o0_1])), (o0r, .inl (ct 1, 60000, .inl k_o0r17_6))] := hD
    refine go_v (k1 := 0) (n1 := 0) (wr := []) [0, 1, 2] [] (rn_V (As := [.int 59, .int 0, .int 0, .int 5, .int 5, .int r37_1]) (rest := []) (c_X10_putOp l D ct tl (59 : Int32) (0 : Int32) (0 : Int32) (5 : Int32) (5 : Int32) r37_1 tls o0 p0 x_tl_3 y_tl_417_5 o0r x_o0_1 k_o0r17_6 h_x_tl_3 (rg_of (show 0 ≤ y_tl_417_5.toInt ∧ y_tl_417_5.toInt ≤ 999990 by have q0 := h_x_tl_4.1; have q1 := h_x_tl_4.2; have q2 := FF.out hp17_8; omega)) h_x_o0_1 _) (cb_of (n := 6) hn mw_1329 mw_10 mw_1326 mhX10_putOp ⟨(Nat.le_of_ble_eq_true rfl), (Nat.le_of_ble_eq_true rfl)⟩) hx hb hml hown hn hK hSK hZ hS mw_1328 mw_s151 (ci := 10) (q0 := 0) rfl rfl rfl rfl hl.1 (Nat.le_of_ble_eq_true rfl) dX10_turnRead_40 ⟨(Nat.le_of_ble_eq_true rfl), (Nat.le_of_ble_eq_true rfl)⟩) hP hD hS hA rfl rfl (by decide) (by decide) (by decide) (Nat.le_of_ble_eq_true rfl) (Nat.le_of_ble_eq_true rfl) (fun u40_2 H locs hp40_3 hP hD hS => ?_)
    obtain ⟨y_tl_440_4, k_o0r40_5⟩ := u40_2
    obtain ⟨hp40_6, hp40_7⟩ := hp40_3
    have hp40_6 : rg y_tl_440_4 1 1000001 := hp40_6
    replace hp40_7 : FF (y_tl_440_4.toInt = y_tl_417_5.toInt + 1) := hp40_7
    have hP : va_P D vwCl [(tl, .inr (10, [.ref tls, .ref o0, .ref p0, .int x_tl_3, .int y_tl_440_4])), (o0, .inr (5, [.ref o0r, .int x_o0_1])), (o0r, .inl (ct 1, 60000, .inl k_o0r40_5))] _ := hP
    have hD : va_D A [(tl, .inr (10, [.ref tls, .ref o0, .ref p0, .int x_tl_3, .int y_tl_440_4])), (o0, .inr (5, [.ref o0r, .int x_o0_1])), (o0r, .inl (ct 1, 60000, .inl k_o0r40_5))] := hD
    have hk43_1 : FF (((d : Nat) : Int) + x_tl_4.toInt + 3 = y_tl_440_4.toInt + 8 + 3 * r6_1.toInt) := FF.mk (Or.elim (show (-2048 ≤ kk.toInt ∧ kk.toInt ≤ 2047) ∨ (kk.toInt < -2048 ∨ 2047 < kk.toInt) by omega) (fun s0a => (Or.elim (show (cc.toInt / 8) % 4 = 0 ∨ (cc.toInt / 8) % 4 = 1 ∨ (cc.toInt / 8) % 4 = 2 ∨ (cc.toInt / 8) % 4 = 3 by omega) (fun s1a => (have e9 : ((d : Nat) : Int) = 19 := FF.out tw0_1_0 ⟨s0a, (show 64 ≤ cc.toInt by have q0 := r23_3.1; have q1 := FF.out hk4_1; omega), s1a⟩; (show ((d : Nat) : Int) + x_tl_4.toInt + 3 = y_tl_440_4.toInt + 8 + 3 * r6_1.toInt by have q0 := FF.out hk4_1; have q1 := FF.out hp6_5; have q2 := FF.out hk17_1; have q3 := FF.out hp17_8; have q4 := FF.out hp17_9; have q5 := FF.out hp40_7; have q6 := s0a; have q7 := s1a; have q8 := e9; omega))) (fun rs1a => (Or.elim rs1a (fun s1b => (have e9 : ((d : Nat) : Int) = 13 := FF.out tw0_1_1 ⟨s0a, (show 64 ≤ cc.toInt by have q0 := r23_3.1; have q1 := FF.out hk4_1; omega), s1b⟩; (show ((d : Nat) : Int) + x_tl_4.toInt + 3 = y_tl_440_4.toInt + 8 + 3 * r6_1.toInt by have q0 := FF.out hk4_1; have q1 := FF.out hp6_6; have q2 := FF.out hk17_1; have q3 := FF.out hp17_8; have q4 := FF.out hp17_9; have q5 := FF.out hp40_7; have q6 := s0a; have q7 := s1b; have q8 := e9; omega))) (fun rs1b => (Or.elim rs1b (fun s1c => (have e9 : ((d : Nat) : Int) = 10 := FF.out tw0_1_2 ⟨s0a, (show 64 ≤ cc.toInt by have q0 := r23_3.1; have q1 := FF.out hk4_1; omega), s1c⟩; (show ((d : Nat) : Int) + x_tl_4.toInt + 3 = y_tl_440_4.toInt + 8 + 3 * r6_1.toInt by have q0 := hp6_4.1; have q1 := FF.out hk4_1; have q2 := FF.out hp6_7; have q3 := FF.out hk17_1; have q4 := FF.out hp17_8; have q5 := FF.out hp17_9; have q6 := FF.out hp40_7; have q7 := s0a; have q8 := s1c; have q9 := e9; omega))) (fun s1d => (have e9 : ((d : Nat) : Int) = 31 := FF.out tw0_1_3 ⟨s0a, (show 64 ≤ cc.toInt by have q0 := r23_3.1; have q1 := FF.out hk4_1; omega), s1d⟩; (show ((d : Nat) : Int) + x_tl_4.toInt + 3 = y_tl_440_4.toInt + 8 + 3 * r6_1.toInt by have q0 := FF.out hk4_1; have q1 := FF.out hp6_8; have q2 := FF.out hk17_1; have q3 := FF.out hp17_8; have q4 := FF.out hp17_9; have q5 := FF.out hp40_7; have q6 := s0a; have q7 := s1d; have q8 := e9; omega))))))))) (fun s0b => (Or.elim (show (cc.toInt / 8) % 4 = 0 ∨ (cc.toInt / 8) % 4 = 1 ∨ (cc.toInt / 8) % 4 = 2 ∨ (cc.toInt / 8) % 4 = 3 by omega) (fun s1a => (have e9 : ((d : Nat) : Int) = 20 := FF.out tw0_1_8 ⟨s0b, (show 64 ≤ cc.toInt by have q0 := r23_3.1; have q1 := FF.out hk4_1; omega), s1a⟩; (show ((d : Nat) : Int) + x_tl_4.toInt + 3 = y_tl_440_4.toInt + 8 + 3 * r6_1.toInt by have q0 := FF.out hk4_1; have q1 := FF.out hp6_5; have q2 := FF.out hk17_1; have q3 := FF.out hp17_8; have q4 := FF.out hp17_10; have q5 := FF.out hp40_7; have q6 := s0b; have q7 := s1a; have q8 := e9; omega))) (fun rs1a => (Or.elim rs1a (fun s1b => (have e9 : ((d : Nat) : Int) = 14 := FF.out tw0_1_9 ⟨s0b, (show 64 ≤ cc.toInt by have q0 := r23_3.1; have q1 := FF.out hk4_1; omega), s1b⟩; (show ((d : Nat) : Int) + x_tl_4.toInt + 3 = y_tl_440_4.toInt + 8 + 3 * r6_1.toInt by have q0 := FF.out hk4_1; have q1 := FF.out hp6_6; have q2 := FF.out hk17_1; have q3 := FF.out hp17_8; have q4 := FF.out hp17_10; have q5 := FF.out hp40_7; have q6 := s0b; have q7 := s1b; have q8 := e9; omega))) (fun rs1b => (Or.elim rs1b (fun s1c => (have e9 : ((d : Nat) : Int) = 11 := FF.out tw0_1_10 ⟨s0b, (show 64 ≤ cc.toInt by have q0 := r23_3.1; have q1 := FF.out hk4_1; omega), s1c⟩; (show ((d : Nat) : Int) + x_tl_4.toInt + 3 = y_tl_440_4.toInt + 8 + 3 * r6_1.toInt by have q0 := hp6_4.1; have q1 := FF.out hk4_1; have q2 := FF.out hp6_7; have q3 := FF.out hk17_1; have q4 := FF.out hp17_8; have q5 := FF.out hp17_10; have q6 := FF.out hp40_7; have q7 := s0b; have q8 := s1c; have q9 := e9; omega))) (fun s1d => (have e9 : ((d : Nat) : Int) = 32 := FF.out tw0_1_11 ⟨s0b, (show 64 ≤ cc.toInt by have q0 := r23_3.1; have q1 := FF.out hk4_1; omega), s1d⟩; (show ((d : Nat) : Int) + x_tl_4.toInt + 3 = y_tl_440_4.toInt + 8 + 3 * r6_1.toInt by have q0 := hp6_4.2; have q1 := FF.out hk4_1; have q2 := FF.out hp6_8; have q3 := FF.out hk17_1; have q4 := FF.out hp17_8; have q5 := FF.out hp17_10; have q6 := FF.out hp40_7; have q7 := s0b; have q8 := s1d; have q9 := e9; omega))))))))))
    refine lv_aload_n hx hb dX10_turnRead_43 rfl (lv_at hl 2 rfl) ?_
    refine lv_iconst (v := 5) hx hb dX10_turnRead_44 (by decide) ?_
    refine go_v (k1 := 0) (n1 := 0) (wr := []) [0, 1, 2] [] (rn_V (As := [.int 5]) (rest := []) (c_X10_putCut l D ct tl (5 : Int32) tls o0 p0 x_tl_3 y_tl_440_4 o0r x_o0_1 k_o0r40_5 h_x_tl_3 (rg_of (show 0 ≤ y_tl_440_4.toInt ∧ y_tl_440_4.toInt ≤ 999950 by have q0 := h_x_tl_4.1; have q1 := h_x_tl_4.2; have q2 := FF.out hp17_8; have q3 := FF.out hp40_7; omega)) h_x_o0_1 _) (cb_of (n := 1) hn mw_1358 mw_10 mw_1355 mhX10_putCut ⟨(Nat.le_of_ble_eq_true rfl), (Nat.le_of_ble_eq_true rfl)⟩) hx hb hml hown hn hK hSK hZ hS mw_1357 mw_s157 (ci := 10) (q0 := 0) rfl rfl rfl rfl hl.1 (Nat.le_of_ble_eq_true rfl) dX10_turnRead_45 ⟨(Nat.le_of_ble_eq_true rfl), (Nat.le_of_ble_eq_true rfl)⟩) hP hD hS hA rfl rfl (by decide) (by decide) (by decide) (Nat.le_of_ble_eq_true rfl) (Nat.le_of_ble_eq_true rfl) (fun u45_2 H locs hp45_3 hP hD hS => ?_)
    obtain ⟨y_tl_445_4, k_o0r45_5⟩ := u45_2
    obtain ⟨hp45_6, hp45_7⟩ := hp45_3
    have hp45_6 : rg y_tl_445_4 1 1000001 := hp45_6
    replace hp45_7 : FF (y_tl_445_4.toInt = y_tl_440_4.toInt + 2) := hp45_7
    have hP : va_P D vwCl [(tl, .inr (10, [.ref tls, .ref o0, .ref p0, .int x_tl_3, .int y_tl_445_4])), (o0, .inr (5, [.ref o0r, .int x_o0_1])), (o0r, .inl (ct 1, 60000, .inl k_o0r45_5))] _ := hP
    have hD : va_D A [(tl, .inr (10, [.ref tls, .ref o0, .ref p0, .int x_tl_3, .int y_tl_445_4])), (o0, .inr (5, [.ref o0r, .int x_o0_1])), (o0r, .inl (ct 1, 60000, .inl k_o0r45_5))] := hD
    refine lv_aload_n hx hb dX10_turnRead_48 rfl (lv_at hl 2 rfl) ?_
    refine lv_bipush (v := 6) hx hb dX10_turnRead_49 (by decide) ?_
    refine lv_iconst (v := 5) hx hb dX10_turnRead_51 (by decide) ?_
    refine lv_iload hx hb dX10_turnRead_52 (lv_at hl 0 rfl) ?_
    refine go_v (k1 := 0) (n1 := 0) (wr := []) [0, 1, 2] [] (rn_V (As := [.int 6, .int 5, .int r6_1]) (rest := []) (c_X10_putAdd l D ct tl (6 : Int32) (5 : Int32) r6_1 tls o0 p0 x_tl_3 y_tl_445_4 o0r x_o0_1 k_o0r45_5 h_x_tl_3 (rg_of (show 0 ≤ y_tl_445_4.toInt ∧ y_tl_445_4.toInt ≤ 999990 by have q0 := h_x_tl_4.1; have q1 := h_x_tl_4.2; have q2 := FF.out hp17_8; have q3 := FF.out hp40_7; have q4 := FF.out hp45_7; omega)) h_x_o0_1 _) (cb_of (n := 3) hn mw_1325 mw_10 mw_1322 mhX10_putAdd ⟨(Nat.le_of_ble_eq_true rfl), (Nat.le_of_ble_eq_true rfl)⟩) hx hb hml hown hn hK hSK hZ hS mw_1324 mw_s150 (ci := 10) (q0 := 0) rfl rfl rfl rfl hl.1 (Nat.le_of_ble_eq_true rfl) dX10_turnRead_54 ⟨(Nat.le_of_ble_eq_true rfl), (Nat.le_of_ble_eq_true rfl)⟩) hP hD hS hA rfl rfl (by decide) (by decide) (by decide) (Nat.le_of_ble_eq_true rfl) (Nat.le_of_ble_eq_true rfl) (fun u54_2 H locs hp54_3 hP hD hS => ?_)
    obtain ⟨y_tl_454_4, k_o0r54_5⟩ := u54_2
    obtain ⟨hp54_6, hp54_7⟩ := hp54_3
    have hp54_6 : rg y_tl_454_4 1 1000001 := hp54_6
    replace hp54_7 : FF (y_tl_454_4.toInt = y_tl_445_4.toInt + 1) := hp54_7
    have hP : va_P D vwCl [(tl, .inr (10, [.ref tls, .ref o0, .ref p0, .int x_tl_3, .int y_tl_454_4])), (o0, .inr (5, [.ref o0r, .int x_o0_1])), (o0r, .inl (ct 1, 60000, .inl k_o0r54_5))] _ := hP
    have hD : va_D A [(tl, .inr (10, [.ref tls, .ref o0, .ref p0, .int x_tl_3, .int y_tl_454_4])), (o0, .inr (5, [.ref o0r, .int x_o0_1])), (o0r, .inl (ct 1, 60000, .inl k_o0r54_5))] := hD
    refine lv_aload_n hx hb dX10_turnRead_57 rfl (lv_at hl 2 rfl) ?_
    refine lv_bipush (v := 7) hx hb dX10_turnRead_58 (by decide) ?_
    refine lv_bipush (v := 9) hx hb dX10_turnRead_60 (by decide) ?_
    refine lv_bipush (v := 6) hx hb dX10_turnRead_62 (by decide) ?_
    refine lv_bipush (v := 12) hx hb dX10_turnRead_64 (by decide) ?_
    refine go_v (k1 := 0) (n1 := 0) (wr := []) [0, 1, 2] [] (rn_V (As := [.int 7, .int 9, .int 6, .int 12]) (rest := []) (c_X10_putBranch l D ct tl (7 : Int32) (9 : Int32) (6 : Int32) (12 : Int32) tls o0 p0 x_tl_3 y_tl_454_4 o0r x_o0_1 k_o0r54_5 h_x_tl_3 (rg_of (show 0 ≤ y_tl_454_4.toInt ∧ y_tl_454_4.toInt ≤ 999990 by have q0 := h_x_tl_4.1; have q1 := h_x_tl_4.2; have q2 := FF.out hp17_8; have q3 := FF.out hp40_7; have q4 := FF.out hp45_7; have q5 := FF.out hp54_7; omega)) h_x_o0_1 _) (cb_of (n := 4) hn mw_1345 mw_10 mw_1342 mhX10_putBranch ⟨(Nat.le_of_ble_eq_true rfl), (Nat.le_of_ble_eq_true rfl)⟩) hx hb hml hown hn hK hSK hZ hS mw_1344 mw_s155 (ci := 10) (q0 := 0) rfl rfl rfl rfl hl.1 (Nat.le_of_ble_eq_true rfl) dX10_turnRead_66 ⟨(Nat.le_of_ble_eq_true rfl), (Nat.le_of_ble_eq_true rfl)⟩) hP hD hS hA rfl rfl (by decide) (by decide) (by decide) (Nat.le_of_ble_eq_true rfl) (Nat.le_of_ble_eq_true rfl) (fun u66_2 H locs hp66_3 hP hD hS => ?_)
    obtain ⟨y_tl_466_4, k_o0r66_5⟩ := u66_2
    obtain ⟨hp66_6, hp66_7⟩ := hp66_3
    have hp66_6 : rg y_tl_466_4 1 1000001 := hp66_6
    replace hp66_7 : FF (y_tl_466_4.toInt = y_tl_454_4.toInt + 1) := hp66_7
    have hP : va_P D vwCl [(tl, .inr (10, [.ref tls, .ref o0, .ref p0, .int x_tl_3, .int y_tl_466_4])), (o0, .inr (5, [.ref o0r, .int x_o0_1])), (o0r, .inl (ct 1, 60000, .inl k_o0r66_5))] _ := hP
    have hD : va_D A [(tl, .inr (10, [.ref tls, .ref o0, .ref p0, .int x_tl_3, .int y_tl_466_4])), (o0, .inr (5, [.ref o0r, .int x_o0_1])), (o0r, .inl (ct 1, 60000, .inl k_o0r66_5))] := hD
    refine lv_aload_n hx hb dX10_turnRead_69 rfl (lv_at hl 2 rfl) ?_
    refine lv_bipush (v := 10) hx hb dX10_turnRead_70 (by decide) ?_
    refine lv_iconst (v := 0) hx hb dX10_turnRead_72 (by decide) ?_
    refine lv_iconst (v := 0) hx hb dX10_turnRead_73 (by decide) ?_
    refine go_v (k1 := 0) (n1 := 0) (wr := []) [0, 1, 2] [] (rn_V (As := [.int 10, .int 0, .int 0]) (rest := []) (c_X10_putAdd l D ct tl (10 : Int32) (0 : Int32) (0 : Int32) tls o0 p0 x_tl_3 y_tl_466_4 o0r x_o0_1 k_o0r66_5 h_x_tl_3 (rg_of (show 0 ≤ y_tl_466_4.toInt ∧ y_tl_466_4.toInt ≤ 999990 by have q0 := h_x_tl_4.1; have q1 := h_x_tl_4.2; have q2 := FF.out hp17_8; have q3 := FF.out hp40_7; have q4 := FF.out hp45_7; have q5 := FF.out hp54_7; have q6 := FF.out hp66_7; omega)) h_x_o0_1 _) (cb_of (n := 3) hn mw_1325 mw_10 mw_1322 mhX10_putAdd ⟨(Nat.le_of_ble_eq_true rfl), (Nat.le_of_ble_eq_true rfl)⟩) hx hb hml hown hn hK hSK hZ hS mw_1324 mw_s150 (ci := 10) (q0 := 0) rfl rfl rfl rfl hl.1 (Nat.le_of_ble_eq_true rfl) dX10_turnRead_74 ⟨(Nat.le_of_ble_eq_true rfl), (Nat.le_of_ble_eq_true rfl)⟩) hP hD hS hA rfl rfl (by decide) (by decide) (by decide) (Nat.le_of_ble_eq_true rfl) (Nat.le_of_ble_eq_true rfl) (fun u74_2 H locs hp74_3 hP hD hS => ?_)
    obtain ⟨y_tl_474_4, k_o0r74_5⟩ := u74_2
    obtain ⟨hp74_6, hp74_7⟩ := hp74_3
    have hp74_6 : rg y_tl_474_4 1 1000001 := hp74_6
    replace hp74_7 : FF (y_tl_474_4.toInt = y_tl_466_4.toInt + 1) := hp74_7
    have hP : va_P D vwCl [(tl, .inr (10, [.ref tls, .ref o0, .ref p0, .int x_tl_3, .int y_tl_474_4])), (o0, .inr (5, [.ref o0r, .int x_o0_1])), (o0r, .inl (ct 1, 60000, .inl k_o0r74_5))] _ := hP
    have hD : va_D A [(tl, .inr (10, [.ref tls, .ref o0, .ref p0, .int x_tl_3, .int y_tl_474_4])), (o0, .inr (5, [.ref o0r, .int x_o0_1])), (o0r, .inl (ct 1, 60000, .inl k_o0r74_5))] := hD
    refine lv_aload_n hx hb dX10_turnRead_77 rfl (lv_at hl 2 rfl) ?_
    refine lv_bipush (v := 115) hx hb dX10_turnRead_78 (by decide) ?_
    refine go_v (k1 := 0) (n1 := 0) (wr := []) [0, 1, 2] [] (rn_V (As := [.int 115]) (rest := []) (c_X10_put l D ct tl (115 : Int32) tls o0 p0 x_tl_3 y_tl_474_4 o0r x_o0_1 k_o0r74_5 h_x_tl_3 (rg_of (show 0 ≤ y_tl_474_4.toInt ∧ y_tl_474_4.toInt ≤ 1000000 by have q0 := h_x_tl_4.1; have q1 := h_x_tl_4.2; have q2 := FF.out hp17_8; have q3 := FF.out hp40_7; have q4 := FF.out hp45_7; have q5 := FF.out hp54_7; have q6 := FF.out hp66_7; have q7 := FF.out hp74_7; omega)) h_x_o0_1 _) (cb_of (n := 1) hn mw_1319 mw_10 mw_1316 mhX10_put ⟨(Nat.le_of_ble_eq_true rfl), (Nat.le_of_ble_eq_true rfl)⟩) hx hb hml hown hn hK hSK hZ hS mw_1318 mw_s149 (ci := 10) (q0 := 0) rfl rfl rfl rfl hl.1 (Nat.le_of_ble_eq_true rfl) dX10_turnRead_80 ⟨(Nat.le_of_ble_eq_true rfl), (Nat.le_of_ble_eq_true rfl)⟩) hP hD hS hA rfl rfl (by decide) (by decide) (by decide) (Nat.le_of_ble_eq_true rfl) (Nat.le_of_ble_eq_true rfl) (fun u80_2 H locs hp80_3 hP hD hS => ?_)
    obtain ⟨y_tl_480_4, k_o0r80_5⟩ := u80_2
    obtain ⟨hp80_6, hp80_7⟩ := hp80_3
    have hp80_6 : rg y_tl_480_4 1 1000001 := hp80_6
    replace hp80_7 : FF (y_tl_480_4.toInt = y_tl_474_4.toInt + 1) := hp80_7
    have hP : va_P D vwCl [(tl, .inr (10, [.ref tls, .ref o0, .ref p0, .int x_tl_3, .int y_tl_480_4])), (o0, .inr (5, [.ref o0r, .int x_o0_1])), (o0r, .inl (ct 1, 60000, .inl k_o0r80_5))] _ := hP
    have hD : va_D A [(tl, .inr (10, [.ref tls, .ref o0, .ref p0, .int x_tl_3, .int y_tl_480_4])), (o0, .inr (5, [.ref o0r, .int x_o0_1])), (o0r, .inl (ct 1, 60000, .inl k_o0r80_5))] := hD
    refine lv_aload_n hx hb dX10_turnRead_83 rfl (lv_at hl 2 rfl) ?_
    refine lv_bipush (v := 51) hx hb dX10_turnRead_84 (by decide) ?_
    refine lv_iconst (v := 0) hx hb dX10_turnRead_86 (by decide) ?_
    refine lv_iconst (v := 0) hx hb dX10_turnRead_87 (by decide) ?_
    refine lv_iconst (v := 5) hx hb dX10_turnRead_88 (by decide) ?_
    refine lv_iconst (v := 5) hx hb dX10_turnRead_89 (by decide) ?_
    refine lv_bipush (v := 8) hx hb dX10_turnRead_90 (by decide) ?_
    refine go_v (k1 := 0) (n1 := 0) (wr := []) [0, 1, 2] [] (rn_V (As := [.int 51, .int 0, .int 0, .int 5, .int 5, .int 8]) (rest := []) (c_X10_putOp l D ct tl (51 : Int32) (0 : Int32) (0 : Int32) (5 : Int32) (5 : Int32) (8 : Int32) tls o0 p0 x_tl_3 y_tl_480_4 o0r x_o0_1 k_o0r80_5 h_x_tl_3 (rg_of (show 0 ≤ y_tl_480_4.toInt ∧ y_tl_480_4.toInt ≤ 999990 by have q0 := h_x_tl_4.1; have q1 := h_x_tl_4.2; have q2 := FF.out hp17_8; have q3 := FF.out hp40_7; have q4 := FF.out hp45_7; have q5 := FF.out hp54_7; have q6 := FF.out hp66_7; have q7 := FF.out hp74_7; have q8 := FF.out hp80_7; omega)) h_x_o0_1 _) (cb_of (n := 6) hn mw_1329 mw_10 mw_1326 mhX10_putOp ⟨(Nat.le_of_ble_eq_true rfl), (Nat.le_of_ble_eq_true rfl)⟩) hx hb hml hown hn hK hSK hZ hS mw_1328 mw_s151 (ci := 10) (q0 := 0) rfl rfl rfl rfl hl.1 (Nat.le_of_ble_eq_true rfl) dX10_turnRead_92 ⟨(Nat.le_of_ble_eq_true rfl), (Nat.le_of_ble_eq_true rfl)⟩) hP hD hS hA rfl rfl (by decide) (by decide) (by decide) (Nat.le_of_ble_eq_true rfl) (Nat.le_of_ble_eq_true rfl) (fun u92_2 H locs hp92_3 hP hD hS => ?_)
    obtain ⟨y_tl_492_4, k_o0r92_5⟩ := u92_2
    obtain ⟨hp92_6, hp92_7⟩ := hp92_3
    have hp92_6 : rg y_tl_492_4 1 1000001 := hp92_6
    replace hp92_7 : FF (y_tl_492_4.toInt = y_tl_480_4.toInt + 1) := hp92_7
    have hP : va_P D vwCl [(tl, .inr (10, [.ref tls, .ref o0, .ref p0, .int x_tl_3, .int y_tl_492_4])), (o0, .inr (5, [.ref o0r, .int x_o0_1])), (o0r, .inl (ct 1, 60000, .inl k_o0r92_5))] _ := hP
    have hD : va_D A [(tl, .inr (10, [.ref tls, .ref o0, .ref p0, .int x_tl_3, .int y_tl_492_4])), (o0, .inr (5, [.ref o0r, .int x_o0_1])), (o0r, .inl (ct 1, 60000, .inl k_o0r92_5))] := hD
    refine lv_aload_n hx hb dX10_turnRead_95 rfl (lv_at hl 2 rfl) ?_
    refine lv_iconst (v := 3) hx hb dX10_turnRead_96 (by decide) ?_
    refine lv_iconst (v := 4) hx hb dX10_turnRead_97 (by decide) ?_
    refine lv_bipush (v := 10) hx hb dX10_turnRead_98 (by decide) ?_
    refine lv_iconst (v := 5) hx hb dX10_turnRead_100 (by decide) ?_
    refine lv_iconst (v := 0) hx hb dX10_turnRead_101 (by decide) ?_
    refine go_v (k1 := 0) (n1 := 0) (wr := []) [0, 1, 2] [] (rn_V (As := [.int 3, .int 4, .int 10, .int 5, .int 0]) (rest := []) (c_X10_putImm l D ct tl (3 : Int32) (4 : Int32) (10 : Int32) (5 : Int32) (0 : Int32) tls o0 p0 x_tl_3 y_tl_492_4 o0r x_o0_1 k_o0r92_5 h_x_tl_3 (rg_of (show 0 ≤ y_tl_492_4.toInt ∧ y_tl_492_4.toInt ≤ 999990 by have q0 := h_x_tl_4.1; have q1 := h_x_tl_4.2; have q2 := FF.out hp17_8; have q3 := FF.out hp40_7; have q4 := FF.out hp45_7; have q5 := FF.out hp54_7; have q6 := FF.out hp66_7; have q7 := FF.out hp74_7; have q8 := FF.out hp80_7; have q9 := FF.out hp92_7; omega)) h_x_o0_1 _) (cb_of (n := 5) hn mw_1341 mw_10 mw_1338 mhX10_putImm ⟨(Nat.le_of_ble_eq_true rfl), (Nat.le_of_ble_eq_true rfl)⟩) hx hb hml hown hn hK hSK hZ hS mw_1340 mw_s154 (ci := 10) (q0 := 0) rfl rfl rfl rfl hl.1 (Nat.le_of_ble_eq_true rfl) dX10_turnRead_102 ⟨(Nat.le_of_ble_eq_true rfl), (Nat.le_of_ble_eq_true rfl)⟩) hP hD hS hA rfl rfl (by decide) (by decide) (by decide) (Nat.le_of_ble_eq_true rfl) (Nat.le_of_ble_eq_true rfl) (fun u102_2 H locs hp102_3 hP hD hS => ?_)
    obtain ⟨y_tl_4102_4, k_o0r102_5⟩ := u102_2
    obtain ⟨hp102_6, hp102_7⟩ := hp102_3
    have hp102_6 : rg y_tl_4102_4 1 1000001 := hp102_6
    replace hp102_7 : FF (y_tl_4102_4.toInt = y_tl_492_4.toInt + 1) := hp102_7
    have hP : va_P D vwCl [(tl, .inr (10, [.ref tls, .ref o0, .ref p0, .int x_tl_3, .int y_tl_4102_4])), (o0, .inr (5, [.ref o0r, .int x_o0_1])), (o0r, .inl (ct 1, 60000, .inl k_o0r102_5))] _ := hP
    have hD : va_D A [(tl, .inr (10, [.ref tls, .ref o0, .ref p0, .int x_tl_3, .int y_tl_4102_4])), (o0, .inr (5, [.ref o0r, .int x_o0_1])), (o0r, .inl (ct 1, 60000, .inl k_o0r102_5))] := hD
    refine lv_iconst (v := 1) hx hb dX10_turnRead_105 (by decide) ?_
    refine lv_istore (lv' := [(5, .int 1), (4, .int r6_1), (3, .int r1_1), (0, .ref tl), (1, .long v0)]) hx hb dX10_turnRead_106 hl (by decide) rfl (fun ls hl => ?_)
    have b108 : ∀ (n108 : Nat) (j108_l5 : Int32) (j108_ftl_4 : Int32) (j108_co0r : Nat → Int32) (H : Heap) (locs : List Loc) (ls : Array Slot), (rg j108_l5 1 8) → (rg j108_ftl_4 1 1000001) → (FF (j108_ftl_4.toInt + 3 * (r6_1.toInt - j108_l5.toInt) = x_tl_4.toInt + ((d : Nat) : Int))) → (FF (1 ≤ j108_l5.toInt)) → (FF (j108_l5.toInt ≤ r6_1.toInt)) → ((2147483647 : Int) - j108_l5.toInt).toNat < n108 → lv_has ls 6 [(0, .ref tl), (4, .int r6_1), (5, .int j108_l5)] → va_P D vwCl [(tl, .inr (10, [.ref tls, .ref o0, .ref p0, .int x_tl_3, .int j108_ftl_4])), (o0, .inr (5, [.ref o0r, .int x_o0_1])), (o0r, .inl (ct 1, 60000, .inl j108_co0r))] H → va_D A [(tl, .inr (10, [.ref tls, .ref o0, .ref p0, .int x_tl_3, .int j108_ftl_4])), (o0, .inr (5, [.ref o0r, .int x_o0_1])), (o0r, .inl (ct 1, 60000, .inl j108_co0r))] → va_S A s.heap H locs → W p l e ({ frames := 4, cells := 0, slots := 0, locals := 87 }) s m [.ref tl, .long v0].toArray below meth c H locs 0 0 Q (F0 m 108 ls []) := by
      intro n108
      induction n108 with
      | zero => intros; rename_i hms _ _ _ _; exact absurd hms (Nat.not_lt_zero _)
      | succ n108 ih108 =>
        intro j108_l5 j108_ftl_4 j108_co0r H locs ls r108_1001 r108_1002 hi108_1003 hi108_1004 hi108_1005 hms108 hl hP hD hS
        refine lv_iload hx hb dX10_turnRead_108 (lv_at hl 2 rfl) ?_
        refine lv_iload hx hb dX10_turnRead_110 (lv_at hl 1 rfl) ?_
        refine lv_icmp_ge (tgt := 160) hx hb dX10_turnRead_112 (by decide) (fun c112_1 => ?_) (fun c112_1 => ?_)
        · have t112_2 := FF.mk (i_le c112_1)
          exact endq_v hQ hx hb hr hlocks dX10_turnRead_160 (j108_ftl_4, j108_co0r) ⟨r108_1002, (show j108_ftl_4.toInt = x_tl_4.toInt + ((d : Nat) : Int) by have q0 := FF.out hi108_1003; have q1 := FF.out hi108_1005; have q2 := FF.out t112_2; omega)⟩ hP hD hS [0, 1, 2] rfl (by decide) rfl (Nat.le_of_ble_eq_true rfl) (Nat.le_of_ble_eq_true rfl)
        · have t112_2 := FF.mk (i_nle c112_1)
          have r112_3 : rg j108_l5 1 7 := rg_ltA t112_2 r108_1001 hp6_4 (by decide)
          have r112_4 : rg r6_1 2 8 := rg_ltB t112_2 r108_1001 hp6_4 (by decide)
          refine lv_aload_n hx hb dX10_turnRead_115 rfl (lv_at hl 0 rfl) ?_
          refine lv_bipush (v := 19) hx hb dX10_turnRead_116 (by decide) ?_
          refine lv_iconst (v := 1) hx hb dX10_turnRead_118 (by decide) ?_
          refine lv_bipush (v := 10) hx hb dX10_turnRead_119 (by decide) ?_
          refine lv_bipush (v := 10) hx hb dX10_turnRead_121 (by decide) ?_
          refine lv_bipush (v := 8) hx hb dX10_turnRead_123 (by decide) ?_
          refine go_v (k1 := 0) (n1 := 0) (wr := []) [0, 1, 2] [] (rn_V (As := [.int 19, .int 1, .int 10, .int 10, .int 8]) (rest := []) (c_X10_putImm l D ct tl (19 : Int32) (1 : Int32) (10 : Int32) (10 : Int32) (8 : Int32) tls o0 p0 x_tl_3 j108_ftl_4 o0r x_o0_1 j108_co0r h_x_tl_3 (rg_of (show 0 ≤ j108_ftl_4.toInt ∧ j108_ftl_4.toInt ≤ 999990 by have q0 := h_x_tl_4.2; have q1 := r112_3.2; have q2 := hp102_6.1; have q3 := FF.out hp17_8; have q4 := FF.out hp40_7; have q5 := FF.out hk43_1; have q6 := FF.out hp45_7; have q7 := FF.out hp54_7; have q8 := FF.out hp66_7; have q9 := FF.out hp74_7; have q10 := FF.out hp80_7; have q11 := FF.out hp92_7; have q12 := FF.out hp102_7; have q13 := FF.out hi108_1003; have q14 := FF.out hi108_1004; omega)) h_x_o0_1 _) (cb_of (n := 5) hn mw_1341 mw_10 mw_1338 mhX10_putImm ⟨(Nat.le_of_ble_eq_true rfl), (Nat.le_of_ble_eq_true rfl)⟩) hx hb hml hown hn hK hSK hZ hS mw_1340 mw_s154 (ci := 10) (q0 := 0) rfl rfl rfl rfl hl.1 (Nat.le_of_ble_eq_true rfl) dX10_turnRead_125 ⟨(Nat.le_of_ble_eq_true rfl), (Nat.le_of_ble_eq_true rfl)⟩) hP hD hS hA rfl rfl (by decide) (by decide) (by decide) (Nat.le_of_ble_eq_true rfl) (Nat.le_of_ble_eq_true rfl) (fun u125_2 H locs hp125_3 hP hD hS => ?_)
          obtain ⟨y_tl_4125_4, k_o0r125_5⟩ := u125_2
          obtain ⟨hp125_6, hp125_7⟩ := hp125_3
          have hp125_6 : rg y_tl_4125_4 1 1000001 := hp125_6
          replace hp125_7 : FF (y_tl_4125_4.toInt = j108_ftl_4.toInt + 1) := hp125_7
          have hP : va_P D vwCl [(tl, .inr (10, [.ref tls, .ref o0, .ref p0, .int x_tl_3, .int y_tl_4125_4])), (o0, .inr (5, [.ref o0r, .int x_o0_1])), (o0r, .inl (ct 1, 60000, .inl k_o0r125_5))] _ := hP
          have hD : va_D A [(tl, .inr (10, [.ref tls, .ref o0, .ref p0, .int x_tl_3, .int y_tl_4125_4])), (o0, .inr (5, [.ref o0r, .int x_o0_1])), (o0r, .inl (ct 1, 60000, .inl k_o0r125_5))] := hD
          refine lv_aload_n hx hb dX10_turnRead_128 rfl (lv_at hl 0 rfl) ?_
          refine lv_iconst (v := 3) hx hb dX10_turnRead_129 (by decide) ?_
          refine lv_iconst (v := 4) hx hb dX10_turnRead_130 (by decide) ?_
          refine lv_bipush (v := 6) hx hb dX10_turnRead_131 (by decide) ?_
          refine lv_iconst (v := 5) hx hb dX10_turnRead_133 (by decide) ?_
          refine lv_iload hx hb dX10_turnRead_134 (lv_at hl 2 rfl) ?_
          refine go_v (k1 := 0) (n1 := 0) (wr := []) [0, 1, 2] [] (rn_V (As := [.int 3, .int 4, .int 6, .int 5, .int j108_l5]) (rest := []) (c_X10_putImm l D ct tl (3 : Int32) (4 : Int32) (6 : Int32) (5 : Int32) j108_l5 tls o0 p0 x_tl_3 y_tl_4125_4 o0r x_o0_1 k_o0r125_5 h_x_tl_3 (rg_of (show 0 ≤ y_tl_4125_4.toInt ∧ y_tl_4125_4.toInt ≤ 999990 by have q0 := h_x_tl_4.2; have q1 := r112_3.2; have q2 := hp102_6.1; have q3 := FF.out hp17_8; have q4 := FF.out hp40_7; have q5 := FF.out hk43_1; have q6 := FF.out hp45_7; have q7 := FF.out hp54_7; have q8 := FF.out hp66_7; have q9 := FF.out hp74_7; have q10 := FF.out hp80_7; have q11 := FF.out hp92_7; have q12 := FF.out hp102_7; have q13 := FF.out hi108_1003; have q14 := FF.out hi108_1004; have q15 := FF.out hp125_7; omega)) h_x_o0_1 _) (cb_of (n := 5) hn mw_1341 mw_10 mw_1338 mhX10_putImm ⟨(Nat.le_of_ble_eq_true rfl), (Nat.le_of_ble_eq_true rfl)⟩) hx hb hml hown hn hK hSK hZ hS mw_1340 mw_s154 (ci := 10) (q0 := 0) rfl rfl rfl rfl hl.1 (Nat.le_of_ble_eq_true rfl) dX10_turnRead_136 ⟨(Nat.le_of_ble_eq_true rfl), (Nat.le_of_ble_eq_true rfl)⟩) hP hD hS hA rfl rfl (by decide) (by decide) (by decide) (Nat.le_of_ble_eq_true rfl) (Nat.le_of_ble_eq_true rfl) (fun u136_2 H locs hp136_3 hP hD hS => ?_)
          obtain ⟨y_tl_4136_4, k_o0r136_5⟩ := u136_2
          obtain ⟨hp136_6, hp136_7⟩ := hp136_3
          have hp136_6 : rg y_tl_4136_4 1 1000001 := hp136_6
          replace hp136_7 : FF (y_tl_4136_4.toInt = y_tl_4125_4.toInt + 1) := hp136_7
          have hP : va_P D vwCl [(tl, .inr (10, [.ref tls, .ref o0, .ref p0, .int x_tl_3, .int y_tl_4136_4])), (o0, .inr (5, [.ref o0r, .int x_o0_1])), (o0r, .inl (ct 1, 60000, .inl k_o0r136_5))] _ := hP
          have hD : va_D A [(tl, .inr (10, [.ref tls, .ref o0, .ref p0, .int x_tl_3, .int y_tl_4136_4])), (o0, .inr (5, [.ref o0r, .int x_o0_1])), (o0r, .inl (ct 1, 60000, .inl k_o0r136_5))] := hD
          refine lv_aload_n hx hb dX10_turnRead_139 rfl (lv_at hl 0 rfl) ?_
          refine lv_bipush (v := 51) hx hb dX10_turnRead_140 (by decide) ?_
          refine lv_iconst (v := 0) hx hb dX10_turnRead_142 (by decide) ?_
          refine lv_bipush (v := 6) hx hb dX10_turnRead_143 (by decide) ?_
          refine lv_bipush (v := 10) hx hb dX10_turnRead_145 (by decide) ?_
          refine lv_bipush (v := 10) hx hb dX10_turnRead_147 (by decide) ?_
          refine lv_bipush (v := 6) hx hb dX10_turnRead_149 (by decide) ?_
          refine go_v (k1 := 0) (n1 := 0) (wr := []) [0, 1, 2] [] (rn_V (As := [.int 51, .int 0, .int 6, .int 10, .int 10, .int 6]) (rest := []) (c_X10_putOp l D ct tl (51 : Int32) (0 : Int32) (6 : Int32) (10 : Int32) (10 : Int32) (6 : Int32) tls o0 p0 x_tl_3 y_tl_4136_4 o0r x_o0_1 k_o0r136_5 h_x_tl_3 (rg_of (show 0 ≤ y_tl_4136_4.toInt ∧ y_tl_4136_4.toInt ≤ 999990 by have q0 := h_x_tl_4.2; have q1 := r112_3.2; have q2 := hp102_6.1; have q3 := FF.out hp17_8; have q4 := FF.out hp40_7; have q5 := FF.out hk43_1; have q6 := FF.out hp45_7; have q7 := FF.out hp54_7; have q8 := FF.out hp66_7; have q9 := FF.out hp74_7; have q10 := FF.out hp80_7; have q11 := FF.out hp92_7; have q12 := FF.out hp102_7; have q13 := FF.out hi108_1003; have q14 := FF.out hi108_1004; have q15 := FF.out hp125_7; have q16 := FF.out hp136_7; omega)) h_x_o0_1 _) (cb_of (n := 6) hn mw_1329 mw_10 mw_1326 mhX10_putOp ⟨(Nat.le_of_ble_eq_true rfl), (Nat.le_of_ble_eq_true rfl)⟩) hx hb hml hown hn hK hSK hZ hS mw_1328 mw_s151 (ci := 10) (q0 := 0) rfl rfl rfl rfl hl.1 (Nat.le_of_ble_eq_true rfl) dX10_turnRead_151 ⟨(Nat.le_of_ble_eq_true rfl), (Nat.le_of_ble_eq_true rfl)⟩) hP hD hS hA rfl rfl (by decide) (by decide) (by decide) (Nat.le_of_ble_eq_true rfl) (Nat.le_of_ble_eq_true rfl) (fun u151_2 H locs hp151_3 hP hD hS => ?_)
          obtain ⟨y_tl_4151_4, k_o0r151_5⟩ := u151_2
          obtain ⟨hp151_6, hp151_7⟩ := hp151_3
          have hp151_6 : rg y_tl_4151_4 1 1000001 := hp151_6
          replace hp151_7 : FF (y_tl_4151_4.toInt = y_tl_4136_4.toInt + 1) := hp151_7
          have hP : va_P D vwCl [(tl, .inr (10, [.ref tls, .ref o0, .ref p0, .int x_tl_3, .int y_tl_4151_4])), (o0, .inr (5, [.ref o0r, .int x_o0_1])), (o0r, .inl (ct 1, 60000, .inl k_o0r151_5))] _ := hP
          have hD : va_D A [(tl, .inr (10, [.ref tls, .ref o0, .ref p0, .int x_tl_3, .int y_tl_4151_4])), (o0, .inr (5, [.ref o0r, .int x_o0_1])), (o0r, .inl (ct 1, 60000, .inl k_o0r151_5))] := hD
          obtain ⟨x154_1, ex154_1⟩ : ∃ z : Int32, z = j108_l5 + 1 := ⟨_, rfl⟩
          have r154_2 : rg x154_1 2 8 := rg_add ex154_1 r112_3 (show rg (1 : Int32) 1 1 from rg_l (by decide)) (by decide)
          refine lv_iinc (v := x154_1) (lv' := [(5, .int x154_1), (0, .ref tl), (4, .int r6_1)]) hx hb dX10_turnRead_154 hl (k := 2) rfl (by rw [ex154_1]; rfl) (by decide) rfl (fun ls hl => ?_)
          refine lv_goto (tgt := 108) hx hb dX10_turnRead_157 (by decide) ?_
          exact ih108 x154_1 y_tl_4151_4 k_o0r151_5 H locs ls (rg_w r154_2 (by decide)) hp151_6 (show y_tl_4151_4.toInt + 3 * (r6_1.toInt - x154_1.toInt) = x_tl_4.toInt + ((d : Nat) : Int) by have q0 := (eq_add ex154_1 r112_3 (show rg (1 : Int32) 1 1 from rg_l (by decide)) (by decide)); have q1 := FF.out hi108_1003; have q2 := FF.out hp125_7; have q3 := FF.out hp136_7; have q4 := FF.out hp151_7; have q5 := (show (1 : Int32).toInt = 1 from by decide); omega) (show 1 ≤ x154_1.toInt by have q0 := (eq_add ex154_1 r112_3 (show rg (1 : Int32) 1 1 from rg_l (by decide)) (by decide)); have q1 := FF.out hi108_1004; have q2 := (show (1 : Int32).toInt = 1 from by decide); omega) (show x154_1.toInt ≤ r6_1.toInt by have q0 := (eq_add ex154_1 r112_3 (show rg (1 : Int32) 1 1 from rg_l (by decide)) (by decide)); have q1 := FF.out t112_2; have q2 := (show (1 : Int32).toInt = 1 from by decide); omega) (show ((2147483647 : Int) - x154_1.toInt).toNat < n108 by have q0 := r112_3.2; have q1 := (eq_add ex154_1 r112_3 (show rg (1 : Int32) 1 1 from rg_l (by decide)) (by decide)); have q2 := (show (1 : Int32).toInt = 1 from by decide); have q3 := hms108; omega) (lv_sub hl [1, 2, 0] rfl) hP hD hS
    exact b108 _ (1 : Int32) y_tl_4102_4 k_o0r102_5 H locs ls (rg_w (show rg (1 : Int32) 1 1 from rg_l (by decide)) (by decide)) hp102_6 (show y_tl_4102_4.toInt + 3 * (r6_1.toInt - (1 : Int32).toInt) = x_tl_4.toInt + ((d : Nat) : Int) by have q0 := FF.out hk43_1; have q1 := FF.out hp45_7; have q2 := FF.out hp54_7; have q3 := FF.out hp66_7; have q4 := FF.out hp74_7; have q5 := FF.out hp80_7; have q6 := FF.out hp92_7; have q7 := FF.out hp102_7; have q8 := (show (1 : Int32).toInt = 1 from by decide); omega) (show 1 ≤ (1 : Int32).toInt by have q0 := (show (1 : Int32).toInt = 1 from by decide); omega) (show (1 : Int32).toInt ≤ r6_1.toInt by have q0 := hp6_4.1; have q1 := (show (1 : Int32).toInt = 1 from by decide); omega) (Nat.lt_succ_self _) (lv_sub hl [3, 1, 0] rfl) hP hD hS
