/-! the ops, counted -/
set_option maxHeartbeats 2000000 in
theorem c_X10_turnOp_w (l : Launch) (D : va_G) (ct : Nat → ClassId) (d : Nat) (cc : Int32) (kk : Int32) (tl : Nat) (v0 : Int64) (tls : Nat) (o0 : Nat) (p0 : Nat) (x_tl_3 : Int32) (x_tl_4 : Int32) (o0r : Nat) (x_o0_1 : Int32) (g_o0r : Nat → Int32) (h_x_tl_3 : rg x_tl_3 0 1) (h_x_tl_4 : rg x_tl_4 0 999800) (h_x_o0_1 : rg x_o0_1 0 60000) (hq0 : cc.toInt = v0.toInt % 256) (hq1 : kk.toInt = v0.toInt / 4294967296) (hq2 : v0.toInt % 256 ≤ 207) (hg0 : TWop cc.toInt kk.toInt d) : KV (S := Int32 × (Nat → Int32)) l yX10_turnOp cX10_turnOp 9 none 4 91 D ct [.ref tl, .long v0] [(tl, .inr (10, [.ref tls, .ref o0, .ref p0, .int x_tl_3, .int x_tl_4])), (o0, .inr (5, [.ref o0r, .int x_o0_1])), (o0r, .inl (ct 1, 60000, .inl g_o0r))] 0 0 (fun (u : Int32 × (Nat → Int32)) => match u with | (y_tl_4, k_o0r) => rg y_tl_4 1 1000001 ∧ (x_tl_4.toInt + 1 ≤ y_tl_4.toInt ∧ y_tl_4.toInt ≤ x_tl_4.toInt + 9) ∧ (y_tl_4.toInt = x_tl_4.toInt + ((d : Nat) : Int))) (fun (u : Int32 × (Nat → Int32)) => match u with | (y_tl_4, k_o0r) => [(tl, .inr (10, [.ref tls, .ref o0, .ref p0, .int x_tl_3, .int y_tl_4])), (o0, .inr (5, [.ref o0r, .int x_o0_1])), (o0r, .inl (ct 1, 60000, .inl k_o0r))]) := by
  refine KVq_of (by decide) (Nat.le_of_ble_eq_true rfl) (fun p e s m below meth c A Q C0 hA H locs hS hP hD hQ ls hl => ?_)
  obtain ⟨hx, hb, hr, hown, hin, hml, hlocks, hn, hK, hZ, hSK⟩ := C0
  have hl : lv_has ls 9 [(0, .ref tl), (1, .long v0)] := hl
  replace hq0 := FF.mk hq0
  replace hq1 := FF.mk hq1
  replace hq2 := FF.mk hq2
  obtain ⟨tw0_1_0, tw0_1_1, tw0_1_2, tw0_1_3, tw0_1_4, tw0_1_5, tw0_1_6, tw0_1_7, tw0_1_8, tw0_1_9, tw0_1_10, tw0_1_11, tw0_1_12, tw0_1_13, tw0_1_14, tw0_1_15, tw0_1_16, tw0_1_17, tw0_1_18, tw0_1_19, tw0_1_20, tw0_1_21, tw0_1_22, tw0_1_23⟩ := hg0
  have hk0_2 : FF (((cc.toInt / 8) % 2 = 1) ∨ ((cc.toInt / 8) % 2 = 0 ∧ (-2048 ≤ kk.toInt ∧ kk.toInt ≤ 2047)) ∨ ((cc.toInt / 8) % 2 = 0 ∧ (kk.toInt < -2048 ∨ 2047 < kk.toInt))) := FF.mk (by omega)
  have hk0_3 : FF ((cc.toInt % 8 = 7 ∨ cc.toInt % 8 = 5) ∧ (cc.toInt / 8) % 2 = 1 ∧ cc.toInt / 16 = 11 → ((d : Nat) : Int) = 1) := FF.mk tw0_1_0
  have hk0_4 : FF ((cc.toInt % 8 = 7 ∨ cc.toInt % 8 = 5) ∧ (cc.toInt / 8) % 2 = 1 ∧ cc.toInt / 16 = 8 → ((d : Nat) : Int) = 1) := FF.mk tw0_1_1
  have hk0_5 : FF ((cc.toInt % 8 = 7 ∨ cc.toInt % 8 = 5) ∧ (cc.toInt / 8) % 2 = 1 ∧ cc.toInt / 16 = 3 → ((d : Nat) : Int) = 4) := FF.mk tw0_1_2
  have hk0_6 : FF ((cc.toInt % 8 = 7 ∨ cc.toInt % 8 = 5) ∧ (cc.toInt / 8) % 2 = 1 ∧ cc.toInt / 16 ≠ 11 ∧ cc.toInt / 16 ≠ 8 ∧ cc.toInt / 16 ≠ 3 → ((d : Nat) : Int) = 1) := FF.mk tw0_1_3
  have hk0_7 : FF ((cc.toInt % 8 = 7 ∨ cc.toInt % 8 = 5) ∧ (cc.toInt / 8) % 2 = 0 ∧ (-2048 ≤ kk.toInt ∧ kk.toInt ≤ 2047) ∧ cc.toInt / 16 = 11 → ((d : Nat) : Int) = 1) := FF.mk tw0_1_4
  have hk0_8 : FF ((cc.toInt % 8 = 7 ∨ cc.toInt % 8 = 5) ∧ (cc.toInt / 8) % 2 = 0 ∧ (-2048 ≤ kk.toInt ∧ kk.toInt ≤ 2047) ∧ cc.toInt / 16 = 8 → ((d : Nat) : Int) = 1) := FF.mk tw0_1_5
  have hk0_9 : FF ((cc.toInt % 8 = 7 ∨ cc.toInt % 8 = 5) ∧ (cc.toInt / 8) % 2 = 0 ∧ (-2048 ≤ kk.toInt ∧ kk.toInt ≤ 2047) ∧ cc.toInt / 16 = 3 → ((d : Nat) : Int) = 5) := FF.mk tw0_1_6
  have hk0_10 : FF ((cc.toInt % 8 = 7 ∨ cc.toInt % 8 = 5) ∧ (cc.toInt / 8) % 2 = 0 ∧ (-2048 ≤ kk.toInt ∧ kk.toInt ≤ 2047) ∧ cc.toInt / 16 ≠ 11 ∧ cc.toInt / 16 ≠ 8 ∧ cc.toInt / 16 ≠ 3 → ((d : Nat) : Int) = 2) := FF.mk tw0_1_7
  have hk0_11 : FF ((cc.toInt % 8 = 7 ∨ cc.toInt % 8 = 5) ∧ (cc.toInt / 8) % 2 = 0 ∧ (kk.toInt < -2048 ∨ 2047 < kk.toInt) ∧ cc.toInt / 16 = 11 → ((d : Nat) : Int) = 2) := FF.mk tw0_1_8
  have hk0_12 : FF ((cc.toInt % 8 = 7 ∨ cc.toInt % 8 = 5) ∧ (cc.toInt / 8) % 2 = 0 ∧ (kk.toInt < -2048 ∨ 2047 < kk.toInt) ∧ cc.toInt / 16 = 8 → ((d : Nat) : Int) = 1) := FF.mk tw0_1_9
  have hk0_13 : FF ((cc.toInt % 8 = 7 ∨ cc.toInt % 8 = 5) ∧ (cc.toInt / 8) % 2 = 0 ∧ (kk.toInt < -2048 ∨ 2047 < kk.toInt) ∧ cc.toInt / 16 = 3 → ((d : Nat) : Int) = 6) := FF.mk tw0_1_10
  have hk0_14 : FF ((cc.toInt % 8 = 7 ∨ cc.toInt % 8 = 5) ∧ (cc.toInt / 8) % 2 = 0 ∧ (kk.toInt < -2048 ∨ 2047 < kk.toInt) ∧ cc.toInt / 16 ≠ 11 ∧ cc.toInt / 16 ≠ 8 ∧ cc.toInt / 16 ≠ 3 → ((d : Nat) : Int) = 3) := FF.mk tw0_1_11
  have hk0_15 : FF (¬ (cc.toInt % 8 = 7 ∨ cc.toInt % 8 = 5) ∧ (cc.toInt / 8) % 2 = 1 ∧ cc.toInt / 16 = 11 → ((d : Nat) : Int) = 3) := FF.mk tw0_1_12
  have hk0_16 : FF (¬ (cc.toInt % 8 = 7 ∨ cc.toInt % 8 = 5) ∧ (cc.toInt / 8) % 2 = 1 ∧ cc.toInt / 16 = 8 → ((d : Nat) : Int) = 3) := FF.mk tw0_1_13
  have hk0_17 : FF (¬ (cc.toInt % 8 = 7 ∨ cc.toInt % 8 = 5) ∧ (cc.toInt / 8) % 2 = 1 ∧ cc.toInt / 16 = 3 → ((d : Nat) : Int) = 7) := FF.mk tw0_1_14
  have hk0_18 : FF (¬ (cc.toInt % 8 = 7 ∨ cc.toInt % 8 = 5) ∧ (cc.toInt / 8) % 2 = 1 ∧ cc.toInt / 16 ≠ 11 ∧ cc.toInt / 16 ≠ 8 ∧ cc.toInt / 16 ≠ 3 → ((d : Nat) : Int) = 3) := FF.mk tw0_1_15
  have hk0_19 : FF (¬ (cc.toInt % 8 = 7 ∨ cc.toInt % 8 = 5) ∧ (cc.toInt / 8) % 2 = 0 ∧ (-2048 ≤ kk.toInt ∧ kk.toInt ≤ 2047) ∧ cc.toInt / 16 = 11 → ((d : Nat) : Int) = 3) := FF.mk tw0_1_16
  have hk0_20 : FF (¬ (cc.toInt % 8 = 7 ∨ cc.toInt % 8 = 5) ∧ (cc.toInt / 8) % 2 = 0 ∧ (-2048 ≤ kk.toInt ∧ kk.toInt ≤ 2047) ∧ cc.toInt / 16 = 8 → ((d : Nat) : Int) = 3) := FF.mk tw0_1_17
  have hk0_21 : FF (¬ (cc.toInt % 8 = 7 ∨ cc.toInt % 8 = 5) ∧ (cc.toInt / 8) % 2 = 0 ∧ (-2048 ≤ kk.toInt ∧ kk.toInt ≤ 2047) ∧ cc.toInt / 16 = 3 → ((d : Nat) : Int) = 8) := FF.mk tw0_1_18
  have hk0_22 : FF (¬ (cc.toInt % 8 = 7 ∨ cc.toInt % 8 = 5) ∧ (cc.toInt / 8) % 2 = 0 ∧ (-2048 ≤ kk.toInt ∧ kk.toInt ≤ 2047) ∧ cc.toInt / 16 ≠ 11 ∧ cc.toInt / 16 ≠ 8 ∧ cc.toInt / 16 ≠ 3 → ((d : Nat) : Int) = 4) := FF.mk tw0_1_19
  have hk0_23 : FF (¬ (cc.toInt % 8 = 7 ∨ cc.toInt % 8 = 5) ∧ (cc.toInt / 8) % 2 = 0 ∧ (kk.toInt < -2048 ∨ 2047 < kk.toInt) ∧ cc.toInt / 16 = 11 → ((d : Nat) : Int) = 4) := FF.mk tw0_1_20
  have hk0_24 : FF (¬ (cc.toInt % 8 = 7 ∨ cc.toInt % 8 = 5) ∧ (cc.toInt / 8) % 2 = 0 ∧ (kk.toInt < -2048 ∨ 2047 < kk.toInt) ∧ cc.toInt / 16 = 8 → ((d : Nat) : Int) = 3) := FF.mk tw0_1_21
  have hk0_25 : FF (¬ (cc.toInt % 8 = 7 ∨ cc.toInt % 8 = 5) ∧ (cc.toInt / 8) % 2 = 0 ∧ (kk.toInt < -2048 ∨ 2047 < kk.toInt) ∧ cc.toInt / 16 = 3 → ((d : Nat) : Int) = 9) := FF.mk tw0_1_22
  have hk0_26 : FF (¬ (cc.toInt % 8 = 7 ∨ cc.toInt % 8 = 5) ∧ (cc.toInt / 8) % 2 = 0 ∧ (kk.toInt < -2048 ∨ 2047 < kk.toInt) ∧ cc.toInt / 16 ≠ 11 ∧ cc.toInt / 16 ≠ 8 ∧ cc.toInt / 16 ≠ 3 → ((d : Nat) : Int) = 5) := FF.mk tw0_1_23
  refine lv_lload_n hx hb dX10_turnOp_0 rfl (lv_at hl 1 rfl) ?_
  refine go_i (k1 := 0) (n1 := 0) (wr := [(tl, .inr (10, [.ref tls, .ref o0, .ref p0, .int x_tl_3, .int x_tl_4])), (o0, .inr (5, [.ref o0r, .int x_o0_1])), (o0r, .inl (ct 1, 60000, .inl g_o0r))]) [] [0, 1, 2] (rn_SN (As := [.long v0]) (rest := []) (c_X7_codeOf l D ct v0  _) (cn_of (n := 1) hn mw_956 mw_7 mw_1299 mhX7_codeOf ⟨(Nat.le_of_ble_eq_true rfl), (Nat.le_of_ble_eq_true rfl)⟩) hx hb hml hown hn hK hSK hZ hS mw_955 rfl hl.1 (Nat.le_of_ble_eq_true rfl) dX10_turnOp_1 ⟨(Nat.le_of_ble_eq_true rfl), (Nat.le_of_ble_eq_true rfl)⟩) hP hD hS hA rfl rfl (by decide) (by decide) (by decide) (Nat.le_of_ble_eq_true rfl) (Nat.le_of_ble_eq_true rfl) (fun r1_1 u1_2 H locs hp1_3 hP hD hS => ?_)
  obtain ⟨hp1_4, hp1_5⟩ := hp1_3
  have hp1_4 : rg r1_1 0 255 := hp1_4
  replace hp1_5 : FF (r1_1.toInt = v0.toInt % 256) := hp1_5
  have hP : va_P D vwCl [(tl, .inr (10, [.ref tls, .ref o0, .ref p0, .int x_tl_3, .int x_tl_4])), (o0, .inr (5, [.ref o0r, .int x_o0_1])), (o0r, .inl (ct 1, 60000, .inl g_o0r))] _ := hP
  have hD : va_D A [(tl, .inr (10, [.ref tls, .ref o0, .ref p0, .int x_tl_3, .int x_tl_4])), (o0, .inr (5, [.ref o0r, .int x_o0_1])), (o0r, .inl (ct 1, 60000, .inl g_o0r))] := hD
  have hk4_1 : FF (r1_1.toInt = cc.toInt) := FF.mk (by have h1 := FF.out hq0; have h2 := FF.out hp1_5; omega)
  refine lv_istore_n (lv' := [(3, .int r1_1), (0, .ref tl), (1, .long v0)]) hx hb dX10_turnOp_4 rfl hl (by decide) rfl (fun ls hl => ?_)
  refine lv_iload_n hx hb dX10_turnOp_5 rfl (lv_at hl 0 rfl) ?_
  refine lv_iconst (v := 4) hx hb dX10_turnOp_6 (by decide) ?_
  refine lv_ishr hx hb dX10_turnOp_7 ?_
  refine lv_topi (fun z7_1 ez7_1 => ?_)
  have r7_2 : rg z7_1 0 15 := rg_shr (k := 4) ez7_1 (by decide) hp1_4 (by decide)
  refine lv_istore (lv' := [(4, .int z7_1), (3, .int r1_1), (0, .ref tl), (1, .long v0)]) hx hb dX10_turnOp_8 hl (by decide) rfl (fun ls hl => ?_)
  refine lv_lload_n hx hb dX10_turnOp_10 rfl (lv_at hl 3 rfl) ?_
  refine go_i (k1 := 0) (n1 := 0) (wr := [(tl, .inr (10, [.ref tls, .ref o0, .ref p0, .int x_tl_3, .int x_tl_4])), (o0, .inr (5, [.ref o0r, .int x_o0_1])), (o0r, .inl (ct 1, 60000, .inl g_o0r))]) [] [0, 1, 2] (rn_SN (As := [.long v0]) (rest := []) (c_X7_dOf l D ct v0  _) (cn_of (n := 1) hn mw_986 mw_7 mw_1305 mhX7_dOf ⟨(Nat.le_of_ble_eq_true rfl), (Nat.le_of_ble_eq_true rfl)⟩) hx hb hml hown hn hK hSK hZ hS mw_985 rfl hl.1 (Nat.le_of_ble_eq_true rfl) dX10_turnOp_11 ⟨(Nat.le_of_ble_eq_true rfl), (Nat.le_of_ble_eq_true rfl)⟩) hP hD hS hA rfl rfl (by decide) (by decide) (by decide) (Nat.le_of_ble_eq_true rfl) (Nat.le_of_ble_eq_true rfl) (fun r11_1 u11_2 H locs hp11_3 hP hD hS => ?_)
  obtain ⟨hp11_4, hp11_5⟩ := hp11_3
  have hp11_4 : rg r11_1 0 15 := hp11_4
  replace hp11_5 : FF (r11_1.toInt = (v0.toInt / 256) % 16) := hp11_5
  have hP : va_P D vwCl [(tl, .inr (10, [.ref tls, .ref o0, .ref p0, .int x_tl_3, .int x_tl_4])), (o0, .inr (5, [.ref o0r, .int x_o0_1])), (o0r, .inl (ct 1, 60000, .inl g_o0r))] _ := hP
  have hD : va_D A [(tl, .inr (10, [.ref tls, .ref o0, .ref p0, .int x_tl_3, .int x_tl_4])), (o0, .inr (5, [.ref o0r, .int x_o0_1])), (o0r, .inl (ct 1, 60000, .inl g_o0r))] := hD
  refine go_i (k1 := 0) (n1 := 0) (wr := [(tl, .inr (10, [.ref tls, .ref o0, .ref p0, .int x_tl_3, .int x_tl_4])), (o0, .inr (5, [.ref o0r, .int x_o0_1])), (o0r, .inl (ct 1, 60000, .inl g_o0r))]) [] [0, 1, 2] (rn_S (As := [.int r11_1]) (rest := []) (c_X10_placeOf l D ct r11_1  _) (cb_of (n := 1) hn mw_1308 mw_10 mw_1306 mhX10_placeOf ⟨(Nat.le_of_ble_eq_true rfl), (Nat.le_of_ble_eq_true rfl)⟩) hx hb hml hown hn hK hSK hZ hS mw_1307 rfl hl.1 (Nat.le_of_ble_eq_true rfl) dX10_turnOp_14 ⟨(Nat.le_of_ble_eq_true rfl), (Nat.le_of_ble_eq_true rfl)⟩) hP hD hS hA rfl rfl (by decide) (by decide) (by decide) (Nat.le_of_ble_eq_true rfl) (Nat.le_of_ble_eq_true rfl) (fun r14_1 u14_2 H locs hp14_3 hP hD hS => ?_)
  have hP : va_P D vwCl [(tl, .inr (10, [.ref tls, .ref o0, .ref p0, .int x_tl_3, .int x_tl_4])), (o0, .inr (5, [.ref o0r, .int x_o0_1])), (o0r, .inl (ct 1, 60000, .inl g_o0r))] _ := hP
  have hD : va_D A [(tl, .inr (10, [.ref tls, .ref o0, .ref p0, .int x_tl_3, .int x_tl_4])), (o0, .inr (5, [.ref o0r, .int x_o0_1])), (o0r, .inl (ct 1, 60000, .inl g_o0r))] := hD
  refine lv_istore (lv' := [(5, .int r14_1), (4, .int z7_1), (3, .int r1_1), (0, .ref tl), (1, .long v0)]) hx hb dX10_turnOp_17 hl (by decide) rfl (fun ls hl => ?_)
  refine lv_iload_n hx hb dX10_turnOp_19 rfl (lv_at hl 2 rfl) ?_
  refine go_i (k1 := 0) (n1 := 0) (wr := [(tl, .inr (10, [.ref tls, .ref o0, .ref p0, .int x_tl_3, .int x_tl_4])), (o0, .inr (5, [.ref o0r, .int x_o0_1])), (o0r, .inl (ct 1, 60000, .inl g_o0r))]) [] [0, 1, 2] (rn_SN (As := [.int r1_1]) (rest := []) (c_X7_isWide_w l D ct r1_1 hp1_4 _) (cn_of (n := 1) hn mw_1062 mw_7 mw_1309 mhX7_isWide ⟨(Nat.le_of_ble_eq_true rfl), (Nat.le_of_ble_eq_true rfl)⟩) hx hb hml hown hn hK hSK hZ hS mw_1061 rfl hl.1 (Nat.le_of_ble_eq_true rfl) dX10_turnOp_20 ⟨(Nat.le_of_ble_eq_true rfl), (Nat.le_of_ble_eq_true rfl)⟩) hP hD hS hA rfl rfl (by decide) (by decide) (by decide) (Nat.le_of_ble_eq_true rfl) (Nat.le_of_ble_eq_true rfl) (fun r20_1 u20_2 H locs hp20_3 hP hD hS => ?_)
  obtain ⟨hp20_4, hp20_5, hp20_6⟩ := hp20_3
  have hp20_4 : rg r20_1 0 1 := hp20_4
  replace hp20_5 : FF (r20_1.toInt = 1 → r1_1.toInt % 8 = 7 ∨ r1_1.toInt % 8 = 5) := hp20_5
  replace hp20_6 : FF (r20_1.toInt = 0 → ¬ (r1_1.toInt % 8 = 7 ∨ r1_1.toInt % 8 = 5)) := hp20_6
  have hP : va_P D vwCl [(tl, .inr (10, [.ref tls, .ref o0, .ref p0, .int x_tl_3, .int x_tl_4])), (o0, .inr (5, [.ref o0r, .int x_o0_1])), (o0r, .inl (ct 1, 60000, .inl g_o0r))] _ := hP
  have hD : va_D A [(tl, .inr (10, [.ref tls, .ref o0, .ref p0, .int x_tl_3, .int x_tl_4])), (o0, .inr (5, [.ref o0r, .int x_o0_1])), (o0r, .inl (ct 1, 60000, .inl g_o0r))] := hD
  refine lv_istore (lv' := [(6, .int r20_1), (5, .int r14_1), (4, .int z7_1), (3, .int r1_1), (0, .ref tl), (1, .long v0)]) hx hb dX10_turnOp_23 hl (by decide) rfl (fun ls hl => ?_)
  refine lv_iload hx hb dX10_turnOp_25 (lv_at hl 2 rfl) ?_
  refine lv_bipush (v := 11) hx hb dX10_turnOp_27 (by decide) ?_
  have b52 : ∀  (H : Heap) (locs : List Loc) (ls : Array Slot), (FF (z7_1.toInt ≠ 11 ∨ (cc.toInt / 8) % 2 = 1)) → lv_has ls 9 [(0, .ref tl), (1, .long v0), (4, .int z7_1), (5, .int r14_1), (6, .int r20_1)] → va_P D vwCl [(tl, .inr (10, [.ref tls, .ref o0, .ref p0, .int x_tl_3, .int x_tl_4])), (o0, .inr (5, [.ref o0r, .int x_o0_1])), (o0r, .inl (ct 1, 60000, .inl g_o0r))] H → va_D A [(tl, .inr (10, [.ref tls, .ref o0, .ref p0, .int x_tl_3, .int x_tl_4])), (o0, .inr (5, [.ref o0r, .int x_o0_1])), (o0r, .inl (ct 1, 60000, .inl g_o0r))] → va_S A s.heap H locs → W p l e ({ frames := 4, cells := 0, slots := 0, locals := 91 }) s m [.ref tl, .long v0].toArray below meth c H locs 0 0 Q (F0 m 52 ls []) := by
    intro  H locs ls hi52_1001 hl hP hD hS
    refine lv_iload hx hb dX10_turnOp_52 (lv_at hl 2 rfl) ?_
    refine lv_bipush (v := 11) hx hb dX10_turnOp_54 (by decide) ?_
    refine lv_icmp_ne (tgt := 76) hx hb dX10_turnOp_56 (by decide) (fun c56_1 => ?_) (fun c56_1 => ?_)
    · have t56_2 := FF.mk (i_ne c56_1)
      refine lv_iload hx hb dX10_turnOp_76 (lv_at hl 2 rfl) ?_
      refine lv_bipush (v := 8) hx hb dX10_turnOp_78 (by decide) ?_
      refine lv_icmp_ne (tgt := 110) hx hb dX10_turnOp_80 (by decide) (fun c80_1 => ?_) (fun c80_1 => ?_)
      · have t80_2 := FF.mk (i_ne c80_1)
        refine lv_iload hx hb dX10_turnOp_110 (lv_at hl 2 rfl) ?_
        refine lv_iconst (v := 3) hx hb dX10_turnOp_112 (by decide) ?_
        refine lv_icmp_ne (tgt := 132) hx hb dX10_turnOp_113 (by decide) (fun c113_1 => ?_) (fun c113_1 => ?_)
        · have t113_2 := FF.mk (i_ne c113_1)
          refine lv_aload_n hx hb dX10_turnOp_132 rfl (lv_at hl 0 rfl) ?_
          refine lv_lload_n hx hb dX10_turnOp_133 rfl (lv_at hl 1 rfl) ?_
          refine go_i (k1 := 0) (n1 := 0) (wr := []) [0, 1, 2] [] (rn_V (As := [.long v0]) (rest := []) (c_X10_putSide_w l D ct cc kk tl v0 tls o0 p0 x_tl_3 x_tl_4 o0r x_o0_1 g_o0r h_x_tl_3 (rg_w h_x_tl_4 (by decide)) h_x_o0_1 (FF.out hq0) (FF.out hq1) _) (cb_of (n := 1) hn mw_1333 mw_10 mw_1330 mhX10_putSide ⟨(Nat.le_of_ble_eq_true rfl), (Nat.le_of_ble_eq_true rfl)⟩) hx hb hml hown hn hK hSK hZ hS mw_1332 mw_s152 (ci := 10) (q0 := 0) rfl rfl rfl rfl hl.1 (Nat.le_of_ble_eq_true rfl) dX10_turnOp_134 ⟨(Nat.le_of_ble_eq_true rfl), (Nat.le_of_ble_eq_true rfl)⟩) hP hD hS hA rfl rfl (by decide) (by decide) (by decide) (Nat.le_of_ble_eq_true rfl) (Nat.le_of_ble_eq_true rfl) (fun r134_1 u134_2 H locs hp134_3 hP hD hS => ?_)
          obtain ⟨y_tl_4134_4, k_o0r134_5⟩ := u134_2
          obtain ⟨hp134_6, hp134_7, hp134_8, hp134_9, hp134_10⟩ := hp134_3
          have hp134_6 : rg y_tl_4134_4 0 1000001 := hp134_6
          replace hp134_7 : FF (x_tl_4.toInt + 0 ≤ y_tl_4134_4.toInt ∧ y_tl_4134_4.toInt ≤ x_tl_4.toInt + 2) := hp134_7
          replace hp134_8 : FF ((cc.toInt / 8) % 2 = 1 → y_tl_4134_4.toInt = x_tl_4.toInt) := hp134_8
          replace hp134_9 : FF ((cc.toInt / 8) % 2 = 0 ∧ -2048 ≤ kk.toInt ∧ kk.toInt ≤ 2047 → y_tl_4134_4.toInt = x_tl_4.toInt + 1) := hp134_9
          replace hp134_10 : FF ((cc.toInt / 8) % 2 = 0 ∧ (kk.toInt < -2048 ∨ 2047 < kk.toInt) → y_tl_4134_4.toInt = x_tl_4.toInt + 2) := hp134_10
          have hP : va_P D vwCl [(tl, .inr (10, [.ref tls, .ref o0, .ref p0, .int x_tl_3, .int y_tl_4134_4])), (o0, .inr (5, [.ref o0r, .int x_o0_1])), (o0r, .inl (ct 1, 60000, .inl k_o0r134_5))] _ := hP
          have hD : va_D A [(tl, .inr (10, [.ref tls, .ref o0, .ref p0, .int x_tl_3, .int y_tl_4134_4])), (o0, .inr (5, [.ref o0r, .int x_o0_1])), (o0r, .inl (ct 1, 60000, .inl k_o0r134_5))] := hD
          refine lv_istore (lv' := [(7, .int r134_1), (0, .ref tl), (1, .long v0), (4, .int z7_1), (5, .int r14_1), (6, .int r20_1)]) hx hb dX10_turnOp_137 hl (by decide) rfl (fun ls hl => ?_)
          refine lv_iload hx hb dX10_turnOp_139 (lv_at hl 5 rfl) ?_
          have b168 : ∀ (j168_s0 : Int32) (H : Heap) (locs : List Loc) (ls : Array Slot), (rg j168_s0 0 1) → lv_has ls 9 [(0, .ref tl), (4, .int z7_1), (5, .int r14_1), (6, .int r20_1), (7, .int r134_1)] → va_P D vwCl [(tl, .inr (10, [.ref tls, .ref o0, .ref p0, .int x_tl_3, .int y_tl_4134_4])), (o0, .inr (5, [.ref o0r, .int x_o0_1])), (o0r, .inl (ct 1, 60000, .inl k_o0r134_5))] H → va_D A [(tl, .inr (10, [.ref tls, .ref o0, .ref p0, .int x_tl_3, .int y_tl_4134_4])), (o0, .inr (5, [.ref o0r, .int x_o0_1])), (o0r, .inl (ct 1, 60000, .inl k_o0r134_5))] → va_S A s.heap H locs → W p l e ({ frames := 4, cells := 0, slots := 0, locals := 91 }) s m [.ref tl, .long v0].toArray below meth c H locs 0 0 Q (F0 m 168 ls [.int j168_s0]) := by
            intro j168_s0 H locs ls r168_1001 hl hP hD hS
            refine lv_istore (lv' := [(8, .int j168_s0), (0, .ref tl), (4, .int z7_1), (5, .int r14_1), (6, .int r20_1), (7, .int r134_1)]) hx hb dX10_turnOp_168 hl (by decide) rfl (fun ls hl => ?_)
            refine lv_aload_n hx hb dX10_turnOp_170 rfl (lv_at hl 1 rfl) ?_
            refine lv_iload hx hb dX10_turnOp_171 (lv_at hl 0 rfl) ?_
            have b183 : ∀ (j183_s0 : Int32) (H : Heap) (locs : List Loc) (ls : Array Slot), (rg j183_s0 51 59) → lv_has ls 9 [(0, .ref tl), (4, .int z7_1), (5, .int r14_1), (6, .int r20_1), (7, .int r134_1)] → va_P D vwCl [(tl, .inr (10, [.ref tls, .ref o0, .ref p0, .int x_tl_3, .int y_tl_4134_4])), (o0, .inr (5, [.ref o0r, .int x_o0_1])), (o0r, .inl (ct 1, 60000, .inl k_o0r134_5))] H → va_D A [(tl, .inr (10, [.ref tls, .ref o0, .ref p0, .int x_tl_3, .int y_tl_4134_4])), (o0, .inr (5, [.ref o0r, .int x_o0_1])), (o0r, .inl (ct 1, 60000, .inl k_o0r134_5))] → va_S A s.heap H locs → W p l e ({ frames := 4, cells := 0, slots := 0, locals := 91 }) s m [.ref tl, .long v0].toArray below meth c H locs 0 0 Q (F0 m 183 ls [.int j183_s0, .ref tl]) := by
              intro j183_s0 H locs ls r183_1001 hl hP hD hS
              obtain ⟨ts183_1, fs183_1, hs183_1, gs183_1⟩ := hZ.2.1
              refine va_gets hx hb hs183_1 hS hown (hn.get mw_1351 rfl) (fun _ h9 => h9) dX10_turnOp_183 ?_
              refine lv_iload hx hb dX10_turnOp_186 (lv_at hl 1 rfl) ?_
              refine va_ti hx hb gs183_1 hS (in_of (show 0 ≤ z7_1.toInt ∧ z7_1.toInt < 13 by have q0 := (eq_shr (c := 16) (k := 4) ez7_1 (by decide) (by decide)); have q1 := FF.out hq2; have q2 := FF.out hp1_5; omega)) (v := .int (fs183_1 z7_1.toNatClampNeg)) rfl dX10_turnOp_188 ?_
              refine lv_topi (fun z188_1 ez188_1 => ?_)
              obtain ⟨ts189_1, fs189_1, hs189_1, gs189_1⟩ := hZ.2.2.1
              refine va_gets hx hb hs189_1 hS hown (hn.get mw_1353 rfl) (fun _ h9 => h9) dX10_turnOp_189 ?_
              refine lv_iload hx hb dX10_turnOp_192 (lv_at hl 1 rfl) ?_
              refine va_ti hx hb gs189_1 hS (in_of (show 0 ≤ z7_1.toInt ∧ z7_1.toInt < 13 by have q0 := (eq_shr (c := 16) (k := 4) ez7_1 (by decide) (by decide)); have q1 := FF.out hq2; have q2 := FF.out hp1_5; omega)) (v := .int (fs189_1 z7_1.toNatClampNeg)) rfl dX10_turnOp_194 ?_
              refine lv_topi (fun z194_1 ez194_1 => ?_)
              refine lv_iload hx hb dX10_turnOp_195 (lv_at hl 2 rfl) ?_
              refine lv_iload hx hb dX10_turnOp_197 (lv_at hl 2 rfl) ?_
              refine lv_iload hx hb dX10_turnOp_199 (lv_at hl 4 rfl) ?_
              refine go_v (k1 := 0) (n1 := 0) (wr := []) [0, 1, 2] [] (rn_V (As := [.int j183_s0, .int z188_1, .int z194_1, .int r14_1, .int r14_1, .int r134_1]) (rest := []) (c_X10_putOp l D ct tl j183_s0 z188_1 z194_1 r14_1 r14_1 r134_1 tls o0 p0 x_tl_3 y_tl_4134_4 o0r x_o0_1 k_o0r134_5 h_x_tl_3 (rg_of (show 0 ≤ y_tl_4134_4.toInt ∧ y_tl_4134_4.toInt ≤ 999990 by have q0 := h_x_tl_4.1; have q1 := h_x_tl_4.2; have q2 := FF.out hp134_7; omega)) h_x_o0_1 _) (cb_of (n := 6) hn mw_1329 mw_10 mw_1326 mhX10_putOp ⟨(Nat.le_of_ble_eq_true rfl), (Nat.le_of_ble_eq_true rfl)⟩) hx hb hml hown hn hK hSK hZ hS mw_1328 mw_s151 (ci := 10) (q0 := 0) rfl rfl rfl rfl hl.1 (Nat.le_of_ble_eq_true rfl) dX10_turnOp_201 ⟨(Nat.le_of_ble_eq_true rfl), (Nat.le_of_ble_eq_true rfl)⟩) hP hD hS hA rfl rfl (by decide) (by decide) (by decide) (Nat.le_of_ble_eq_true rfl) (Nat.le_of_ble_eq_true rfl) (fun u201_2 H locs hp201_3 hP hD hS => ?_)
              obtain ⟨y_tl_4201_4, k_o0r201_5⟩ := u201_2
              obtain ⟨hp201_6, hp201_7⟩ := hp201_3
              have hp201_6 : rg y_tl_4201_4 1 1000001 := hp201_6
              replace hp201_7 : FF (y_tl_4201_4.toInt = y_tl_4134_4.toInt + 1) := hp201_7
              have hP : va_P D vwCl [(tl, .inr (10, [.ref tls, .ref o0, .ref p0, .int x_tl_3, .int y_tl_4201_4])), (o0, .inr (5, [.ref o0r, .int x_o0_1])), (o0r, .inl (ct 1, 60000, .inl k_o0r201_5))] _ := hP
              have hD : va_D A [(tl, .inr (10, [.ref tls, .ref o0, .ref p0, .int x_tl_3, .int y_tl_4201_4])), (o0, .inr (5, [.ref o0r, .int x_o0_1])), (o0r, .inl (ct 1, 60000, .inl k_o0r201_5))] := hD
              refine lv_iload hx hb dX10_turnOp_204 (lv_at hl 3 rfl) ?_
              refine lv_if_ne (tgt := 215) hx hb dX10_turnOp_206 (by decide) (fun c206_1 => ?_) (fun c206_1 => ?_)
              · have t206_2 := FF.mk (i_ne c206_1)
                have r206_3 : rg r20_1 1 1 := rg_neAl t206_2 hp20_4 (show rg (0 : Int32) 0 0 from rg_l (by decide)) (by decide)
                exact endq_v hQ hx hb hr hlocks dX10_turnOp_215 (y_tl_4201_4, k_o0r201_5) ⟨hp201_6, (show x_tl_4.toInt + 1 ≤ y_tl_4201_4.toInt ∧ y_tl_4201_4.toInt ≤ x_tl_4.toInt + 9 by have q0 := FF.out hp134_7; have q1 := FF.out hp201_7; omega), (show y_tl_4201_4.toInt = x_tl_4.toInt + ((d : Nat) : Int) by have q0 := (eq_shr (c := 16) (k := 4) ez7_1 (by decide) (by decide)); have q1 := r206_3.1; have q2 := r206_3.2; have q3 := FF.out hk0_2; have q4 := FF.out hk0_6; have q5 := FF.out hk0_10; have q6 := FF.out hk0_14; have q7 := FF.out hk4_1; have q8 := FF.out hp20_5; have q9 := FF.out t56_2; have q10 := FF.out t80_2; have q11 := FF.out t113_2; have q12 := FF.out hp134_7; have q13 := FF.out hp134_8; have q14 := FF.out hp134_9; have q15 := FF.out hp134_10; have q16 := FF.out hp201_7; have q17 := (show (11 : Int32).toInt = 11 from by decide); have q18 := (show (3 : Int32).toInt = 3 from by decide); have q19 := (show (8 : Int32).toInt = 8 from by decide); omega)⟩ hP hD hS [0, 1, 2] rfl (by decide) rfl (Nat.le_of_ble_eq_true rfl) (Nat.le_of_ble_eq_true rfl)
              · have t206_2 := FF.mk (i_eq c206_1)
                have r206_3 : rg r20_1 0 0 := rg_eqA t206_2 hp20_4 (show rg (0 : Int32) 0 0 from rg_l (by decide)) (by decide)
                refine lv_aload_n hx hb dX10_turnOp_209 rfl (lv_at hl 0 rfl) ?_
                refine lv_iload hx hb dX10_turnOp_210 (lv_at hl 2 rfl) ?_
                refine go_v (k1 := 0) (n1 := 0) (wr := []) [0, 1, 2] [] (rn_V (As := [.int r14_1]) (rest := []) (c_X10_putCut l D ct tl r14_1 tls o0 p0 x_tl_3 y_tl_4201_4 o0r x_o0_1 k_o0r201_5 h_x_tl_3 (rg_of (show 0 ≤ y_tl_4201_4.toInt ∧ y_tl_4201_4.toInt ≤ 999950 by have q0 := h_x_tl_4.1; have q1 := h_x_tl_4.2; have q2 := FF.out hp134_7; have q3 := FF.out hp201_7; omega)) h_x_o0_1 _) (cb_of (n := 1) hn mw_1358 mw_10 mw_1355 mhX10_putCut ⟨(Nat.le_of_ble_eq_true rfl), (Nat.le_of_ble_eq_true rfl)⟩) hx hb hml hown hn hK hSK hZ hS mw_1357 mw_s157 (ci := 10) (q0 := 0) rfl rfl rfl rfl hl.1 (Nat.le_of_ble_eq_true rfl) dX10_turnOp_212 ⟨(Nat.le_of_ble_eq_true rfl), (Nat.le_of_ble_eq_true rfl)⟩) hP hD hS hA rfl rfl (by decide) (by decide) (by decide) (Nat.le_of_ble_eq_true rfl) (Nat.le_of_ble_eq_true rfl) (fun u212_2 H locs hp212_3 hP hD hS => ?_)
                obtain ⟨y_tl_4212_4, k_o0r212_5⟩ := u212_2
                obtain ⟨hp212_6, hp212_7⟩ := hp212_3
                have hp212_6 : rg y_tl_4212_4 1 1000001 := hp212_6
                replace hp212_7 : FF (y_tl_4212_4.toInt = y_tl_4201_4.toInt + 2) := hp212_7
                have hP : va_P D vwCl [(tl, .inr (10, [.ref tls, .ref o0, .ref p0, .int x_tl_3, .int y_tl_4212_4])), (o0, .inr (5, [.ref o0r, .int x_o0_1])), (o0r, .inl (ct 1, 60000, .inl k_o0r212_5))] _ := hP
                have hD : va_D A [(tl, .inr (10, [.ref tls, .ref o0, .ref p0, .int x_tl_3, .int y_tl_4212_4])), (o0, .inr (5, [.ref o0r, .int x_o0_1])), (o0r, .inl (ct 1, 60000, .inl k_o0r212_5))] := hD
                exact endq_v hQ hx hb hr hlocks dX10_turnOp_215 (y_tl_4212_4, k_o0r212_5) ⟨hp212_6, (show x_tl_4.toInt + 1 ≤ y_tl_4212_4.toInt ∧ y_tl_4212_4.toInt ≤ x_tl_4.toInt + 9 by have q0 := FF.out hp134_7; have q1 := FF.out hp201_7; have q2 := FF.out hp212_7; omega), (show y_tl_4212_4.toInt = x_tl_4.toInt + ((d : Nat) : Int) by have q0 := (eq_shr (c := 16) (k := 4) ez7_1 (by decide) (by decide)); have q1 := FF.out hk0_2; have q2 := FF.out hk0_18; have q3 := FF.out hk0_22; have q4 := FF.out hk0_26; have q5 := FF.out hk4_1; have q6 := FF.out hp20_6; have q7 := FF.out t56_2; have q8 := FF.out t80_2; have q9 := FF.out t113_2; have q10 := FF.out hp134_7; have q11 := FF.out hp134_8; have q12 := FF.out hp134_9; have q13 := FF.out hp134_10; have q14 := FF.out hp201_7; have q15 := FF.out t206_2; have q16 := FF.out hp212_7; have q17 := (show (0 : Int32).toInt = 0 from by decide); have q18 := (show (11 : Int32).toInt = 11 from by decide); have q19 := (show (3 : Int32).toInt = 3 from by decide); have q20 := (show (8 : Int32).toInt = 8 from by decide); omega)⟩ hP hD hS [0, 1, 2] rfl (by decide) rfl (Nat.le_of_ble_eq_true rfl) (Nat.le_of_ble_eq_true rfl)
            refine lv_if_eq (tgt := 181) hx hb dX10_turnOp_173 (by decide) (fun c173_1 => ?_) (fun c173_1 => ?_)
            · have t173_2 := FF.mk (i_eq c173_1)
              have r173_3 : rg j168_s0 0 0 := rg_eqA t173_2 r168_1001 (show rg (0 : Int32) 0 0 from rg_l (by decide)) (by decide)
              refine lv_bipush (v := 59) hx hb dX10_turnOp_181 (by decide) ?_
              exact b183 (59 : Int32) H locs ls (rg_w (show rg (59 : Int32) 59 59 from rg_l (by decide)) (by decide)) (lv_sub hl [1, 2, 3, 4, 5] rfl) hP hD hS
            · have t173_2 := FF.mk (i_ne c173_1)
              have r173_3 : rg j168_s0 1 1 := rg_neAl t173_2 r168_1001 (show rg (0 : Int32) 0 0 from rg_l (by decide)) (by decide)
              refine lv_bipush (v := 51) hx hb dX10_turnOp_176 (by decide) ?_
              refine lv_goto (tgt := 183) hx hb dX10_turnOp_178 (by decide) ?_
              exact b183 (51 : Int32) H locs ls (rg_w (show rg (51 : Int32) 51 51 from rg_l (by decide)) (by decide)) (lv_sub hl [1, 2, 3, 4, 5] rfl) hP hD hS
          have b163 : ∀  (H : Heap) (locs : List Loc) (ls : Array Slot), lv_has ls 9 [(0, .ref tl), (4, .int z7_1), (5, .int r14_1), (6, .int r20_1), (7, .int r134_1)] → va_P D vwCl [(tl, .inr (10, [.ref tls, .ref o0, .ref p0, .int x_tl_3, .int y_tl_4134_4])), (o0, .inr (5, [.ref o0r, .int x_o0_1])), (o0r, .inl (ct 1, 60000, .inl k_o0r134_5))] H → va_D A [(tl, .inr (10, [.ref tls, .ref o0, .ref p0, .int x_tl_3, .int y_tl_4134_4])), (o0, .inr (5, [.ref o0r, .int x_o0_1])), (o0r, .inl (ct 1, 60000, .inl k_o0r134_5))] → va_S A s.heap H locs → W p l e ({ frames := 4, cells := 0, slots := 0, locals := 91 }) s m [.ref tl, .long v0].toArray below meth c H locs 0 0 Q (F0 m 163 ls []) := by
            intro  H locs ls  hl hP hD hS
            refine lv_iconst (v := 1) hx hb dX10_turnOp_163 (by decide) ?_
            refine lv_goto (tgt := 168) hx hb dX10_turnOp_164 (by decide) ?_
            exact b168 (1 : Int32) H locs ls (rg_w (show rg (1 : Int32) 1 1 from rg_l (by decide)) (by decide)) (lv_sub hl [0, 1, 2, 3, 4] rfl) hP hD hS
          refine lv_if_ne (tgt := 163) hx hb dX10_turnOp_141 (by decide) (fun c141_1 => ?_) (fun c141_1 => ?_)
          · have t141_2 := FF.mk (i_ne c141_1)
            have r141_3 : rg r20_1 1 1 := rg_neAl t141_2 hp20_4 (show rg (0 : Int32) 0 0 from rg_l (by decide)) (by decide)
            exact b163  H locs ls  (lv_sub hl [1, 3, 4, 5, 0] rfl) hP hD hS
          · have t141_2 := FF.mk (i_eq c141_1)
            have r141_3 : rg r20_1 0 0 := rg_eqA t141_2 hp20_4 (show rg (0 : Int32) 0 0 from rg_l (by decide)) (by decide)
            refine lv_iload hx hb dX10_turnOp_144 (lv_at hl 3 rfl) ?_
            refine lv_iconst (v := 4) hx hb dX10_turnOp_146 (by decide) ?_
            refine lv_icmp_eq (tgt := 163) hx hb dX10_turnOp_147 (by decide) (fun c147_1 => ?_) (fun c147_1 => ?_)
            · have t147_2 := FF.mk (i_eq c147_1)
              have r147_3 : rg z7_1 4 4 := rg_eqA t147_2 r7_2 (show rg (4 : Int32) 4 4 from rg_l (by decide)) (by decide)
              exact b163  H locs ls  (lv_sub hl [1, 3, 4, 5, 0] rfl) hP hD hS
            · have t147_2 := FF.mk (i_ne c147_1)
              refine lv_iload hx hb dX10_turnOp_150 (lv_at hl 3 rfl) ?_
              refine lv_iconst (v := 5) hx hb dX10_turnOp_152 (by decide) ?_
              refine lv_icmp_eq (tgt := 163) hx hb dX10_turnOp_153 (by decide) (fun c153_1 => ?_) (fun c153_1 => ?_)
              · have t153_2 := FF.mk (i_eq c153_1)
                have r153_3 : rg z7_1 5 5 := rg_eqA t153_2 r7_2 (show rg (5 : Int32) 5 5 from rg_l (by decide)) (by decide)
                exact b163  H locs ls  (lv_sub hl [1, 3, 4, 5, 0] rfl) hP hD hS
              · have t153_2 := FF.mk (i_ne c153_1)
                refine lv_iload hx hb dX10_turnOp_156 (lv_at hl 3 rfl) ?_
                refine lv_bipush (v := 10) hx hb dX10_turnOp_158 (by decide) ?_
                refine lv_icmp_ne (tgt := 167) hx hb dX10_turnOp_160 (by decide) (fun c160_1 => ?_) (fun c160_1 => ?_)
                · have t160_2 := FF.mk (i_ne c160_1)
                  refine lv_iconst (v := 0) hx hb dX10_turnOp_167 (by decide) ?_
                  exact b168 (0 : Int32) H locs ls (rg_w (show rg (0 : Int32) 0 0 from rg_l (by decide)) (by decide)) (lv_sub hl [1, 3, 4, 5, 0] rfl) hP hD hS
                · have t160_2 := FF.mk (i_eq c160_1)
                  have r160_3 : rg z7_1 10 10 := rg_eqA t160_2 r7_2 (show rg (10 : Int32) 10 10 from rg_l (by decide)) (by decide)
                  exact b163  H locs ls  (lv_sub hl [1, 3, 4, 5, 0] rfl) hP hD hS
        · have t113_2 := FF.mk (i_eq c113_1)
          have r113_3 : rg z7_1 3 3 := rg_eqA t113_2 r7_2 (show rg (3 : Int32) 3 3 from rg_l (by decide)) (by decide)
          refine lv_aload_n hx hb dX10_turnOp_116 rfl (lv_at hl 0 rfl) ?_
          refine lv_iload hx hb dX10_turnOp_117 (lv_at hl 4 rfl) ?_
          refine lv_iload hx hb dX10_turnOp_119 (lv_at hl 3 rfl) ?_
          refine lv_aload_n hx hb dX10_turnOp_121 rfl (lv_at hl 0 rfl) ?_
          refine lv_lload_n hx hb dX10_turnOp_122 rfl (lv_at hl 1 rfl) ?_
          refine go_i (k1 := 0) (n1 := 0) (wr := []) [0, 1, 2] [] (rn_V (As := [.long v0]) (rest := [.int r14_1, .int r20_1, .ref tl]) (c_X10_putSide_w l D ct cc kk tl v0 tls o0 p0 x_tl_3 x_tl_4 o0r x_o0_1 g_o0r h_x_tl_3 (rg_w h_x_tl_4 (by decide)) h_x_o0_1 (FF.out hq0) (FF.out hq1) _) (cb_of (n := 1) hn mw_1333 mw_10 mw_1330 mhX10_putSide ⟨(Nat.le_of_ble_eq_true rfl), (Nat.le_of_ble_eq_true rfl)⟩) hx hb hml hown hn hK hSK hZ hS mw_1332 mw_s152 (ci := 10) (q0 := 0) rfl rfl rfl rfl hl.1 (Nat.le_of_ble_eq_true rfl) dX10_turnOp_123 ⟨(Nat.le_of_ble_eq_true rfl), (Nat.le_of_ble_eq_true rfl)⟩) hP hD hS hA rfl rfl (by decide) (by decide) (by decide) (Nat.le_of_ble_eq_true rfl) (Nat.le_of_ble_eq_true rfl) (fun r123_1 u123_2 H locs hp123_3 hP hD hS => ?_)
          obtain ⟨y_tl_4123_4, k_o0r123_5⟩ := u123_2
          obtain ⟨hp123_6, hp123_7, hp123_8, hp123_9, hp123_10⟩ := hp123_3
          have hp123_6 : rg y_tl_4123_4 0 1000001 := hp123_6
          replace hp123_7 : FF (x_tl_4.toInt + 0 ≤ y_tl_4123_4.toInt ∧ y_tl_4123_4.toInt ≤ x_tl_4.toInt + 2) := hp123_7
          replace hp123_8 : FF ((cc.toInt / 8) % 2 = 1 → y_tl_4123_4.toInt = x_tl_4.toInt) := hp123_8
          replace hp123_9 : FF ((cc.toInt / 8) % 2 = 0 ∧ -2048 ≤ kk.toInt ∧ kk.toInt ≤ 2047 → y_tl_4123_4.toInt = x_tl_4.toInt + 1) := hp123_9
          replace hp123_10 : FF ((cc.toInt / 8) % 2 = 0 ∧ (kk.toInt < -2048 ∨ 2047 < kk.toInt) → y_tl_4123_4.toInt = x_tl_4.toInt + 2) := hp123_10
          have hP : va_P D vwCl [(tl, .inr (10, [.ref tls, .ref o0, .ref p0, .int x_tl_3, .int y_tl_4123_4])), (o0, .inr (5, [.ref o0r, .int x_o0_1])), (o0r, .inl (ct 1, 60000, .inl k_o0r123_5))] _ := hP
          have hD : va_D A [(tl, .inr (10, [.ref tls, .ref o0, .ref p0, .int x_tl_3, .int y_tl_4123_4])), (o0, .inr (5, [.ref o0r, .int x_o0_1])), (o0r, .inl (ct 1, 60000, .inl k_o0r123_5))] := hD
          refine go_v (k1 := 0) (n1 := 0) (wr := []) [0, 1, 2] [] (rn_V (As := [.int r20_1, .int r14_1, .int r123_1]) (rest := []) (c_X10_turnDivision_w l D ct tl r20_1 r14_1 r123_1 tls o0 p0 x_tl_3 y_tl_4123_4 o0r x_o0_1 k_o0r123_5 hp20_4 h_x_tl_3 (rg_of (show 0 ≤ y_tl_4123_4.toInt ∧ y_tl_4123_4.toInt ≤ 999900 by have q0 := h_x_tl_4.1; have q1 := h_x_tl_4.2; have q2 := FF.out hp123_7; omega)) h_x_o0_1 _) (cb_of (n := 3) hn mw_1337 mw_10 mw_1334 mhX10_turnDivision ⟨(Nat.le_of_ble_eq_true rfl), (Nat.le_of_ble_eq_true rfl)⟩) hx hb hml hown hn hK hSK hZ hS mw_1336 mw_s153 (ci := 10) (q0 := 0) rfl rfl rfl rfl hl.1 (Nat.le_of_ble_eq_true rfl) dX10_turnOp_126 ⟨(Nat.le_of_ble_eq_true rfl), (Nat.le_of_ble_eq_true rfl)⟩) hP hD hS hA rfl rfl (by decide) (by decide) (by decide) (Nat.le_of_ble_eq_true rfl) (Nat.le_of_ble_eq_true rfl) (fun u126_2 H locs hp126_3 hP hD hS => ?_)
          obtain ⟨y_tl_4126_4, k_o0r126_5⟩ := u126_2
          obtain ⟨hp126_6, hp126_7, hp126_8, hp126_9⟩ := hp126_3
          have hp126_6 : rg y_tl_4126_4 1 1000001 := hp126_6
          replace hp126_7 : FF (y_tl_4123_4.toInt + 4 ≤ y_tl_4126_4.toInt ∧ y_tl_4126_4.toInt ≤ y_tl_4123_4.toInt + 5) := hp126_7
          replace hp126_8 : FF (r20_1.toInt = 1 → y_tl_4126_4.toInt = y_tl_4123_4.toInt + 4) := hp126_8
          replace hp126_9 : FF (r20_1.toInt = 0 → y_tl_4126_4.toInt = y_tl_4123_4.toInt + 5) := hp126_9
          have hP : va_P D vwCl [(tl, .inr (10, [.ref tls, .ref o0, .ref p0, .int x_tl_3, .int y_tl_4126_4])), (o0, .inr (5, [.ref o0r, .int x_o0_1])), (o0r, .inl (ct 1, 60000, .inl k_o0r126_5))] _ := hP
          have hD : va_D A [(tl, .inr (10, [.ref tls, .ref o0, .ref p0, .int x_tl_3, .int y_tl_4126_4])), (o0, .inr (5, [.ref o0r, .int x_o0_1])), (o0r, .inl (ct 1, 60000, .inl k_o0r126_5))] := hD
          refine lv_goto (tgt := 204) hx hb dX10_turnOp_129 (by decide) ?_
          refine lv_iload hx hb dX10_turnOp_204 (lv_at hl 4 rfl) ?_
          refine lv_if_ne (tgt := 215) hx hb dX10_turnOp_206 (by decide) (fun c206_1 => ?_) (fun c206_1 => ?_)
          · have t206_2 := FF.mk (i_ne c206_1)
            have r206_3 : rg r20_1 1 1 := rg_neAl t206_2 hp20_4 (show rg (0 : Int32) 0 0 from rg_l (by decide)) (by decide)
            exact endq_v hQ hx hb hr hlocks dX10_turnOp_215 (y_tl_4126_4, k_o0r126_5) ⟨hp126_6, (show x_tl_4.toInt + 1 ≤ y_tl_4126_4.toInt ∧ y_tl_4126_4.toInt ≤ x_tl_4.toInt + 9 by have q0 := FF.out hp123_7; have q1 := FF.out hp126_7; omega), (show y_tl_4126_4.toInt = x_tl_4.toInt + ((d : Nat) : Int) by have q0 := r206_3.1; have q1 := r206_3.2; have q2 := r113_3.1; have q3 := r113_3.2; have q4 := (eq_shr (c := 16) (k := 4) ez7_1 (by decide) (by decide)); have q5 := FF.out hk0_2; have q6 := FF.out hk0_5; have q7 := FF.out hk0_9; have q8 := FF.out hk0_13; have q9 := FF.out hk4_1; have q10 := FF.out hp20_5; have q11 := FF.out hp123_7; have q12 := FF.out hp123_8; have q13 := FF.out hp123_9; have q14 := FF.out hp123_10; have q15 := FF.out hp126_7; have q16 := FF.out hp126_8; omega)⟩ hP hD hS [0, 1, 2] rfl (by decide) rfl (Nat.le_of_ble_eq_true rfl) (Nat.le_of_ble_eq_true rfl)
          · have t206_2 := FF.mk (i_eq c206_1)
            have r206_3 : rg r20_1 0 0 := rg_eqA t206_2 hp20_4 (show rg (0 : Int32) 0 0 from rg_l (by decide)) (by decide)
            refine lv_aload_n hx hb dX10_turnOp_209 rfl (lv_at hl 0 rfl) ?_
            refine lv_iload hx hb dX10_turnOp_210 (lv_at hl 3 rfl) ?_
            refine go_v (k1 := 0) (n1 := 0) (wr := []) [0, 1, 2] [] (rn_V (As := [.int r14_1]) (rest := []) (c_X10_putCut l D ct tl r14_1 tls o0 p0 x_tl_3 y_tl_4126_4 o0r x_o0_1 k_o0r126_5 h_x_tl_3 (rg_of (show 0 ≤ y_tl_4126_4.toInt ∧ y_tl_4126_4.toInt ≤ 999950 by have q0 := hp123_6.1; have q1 := h_x_tl_4.2; have q2 := FF.out hp123_7; have q3 := FF.out hp126_7; omega)) h_x_o0_1 _) (cb_of (n := 1) hn mw_1358 mw_10 mw_1355 mhX10_putCut ⟨(Nat.le_of_ble_eq_true rfl), (Nat.le_of_ble_eq_true rfl)⟩) hx hb hml hown hn hK hSK hZ hS mw_1357 mw_s157 (ci := 10) (q0 := 0) rfl rfl rfl rfl hl.1 (Nat.le_of_ble_eq_true rfl) dX10_turnOp_212 ⟨(Nat.le_of_ble_eq_true rfl), (Nat.le_of_ble_eq_true rfl)⟩) hP hD hS hA rfl rfl (by decide) (by decide) (by decide) (Nat.le_of_ble_eq_true rfl) (Nat.le_of_ble_eq_true rfl) (fun u212_2 H locs hp212_3 hP hD hS => ?_)
            obtain ⟨y_tl_4212_4, k_o0r212_5⟩ := u212_2
            obtain ⟨hp212_6, hp212_7⟩ := hp212_3
            have hp212_6 : rg y_tl_4212_4 1 1000001 := hp212_6
            replace hp212_7 : FF (y_tl_4212_4.toInt = y_tl_4126_4.toInt + 2) := hp212_7
            have hP : va_P D vwCl [(tl, .inr (10, [.ref tls, .ref o0, .ref p0, .int x_tl_3, .int y_tl_4212_4])), (o0, .inr (5, [.ref o0r, .int x_o0_1])), (o0r, .inl (ct 1, 60000, .inl k_o0r212_5))] _ := hP
            have hD : va_D A [(tl, .inr (10, [.ref tls, .ref o0, .ref p0, .int x_tl_3, .int y_tl_4212_4])), (o0, .inr (5, [.ref o0r, .int x_o0_1])), (o0r, .inl (ct 1, 60000, .inl k_o0r212_5))] := hD
            exact endq_v hQ hx hb hr hlocks dX10_turnOp_215 (y_tl_4212_4, k_o0r212_5) ⟨hp212_6, (show x_tl_4.toInt + 1 ≤ y_tl_4212_4.toInt ∧ y_tl_4212_4.toInt ≤ x_tl_4.toInt + 9 by have q0 := FF.out hp123_7; have q1 := FF.out hp126_7; have q2 := FF.out hp212_7; omega), (show y_tl_4212_4.toInt = x_tl_4.toInt + ((d : Nat) : Int) by have q0 := r113_3.1; have q1 := r113_3.2; have q2 := (eq_shr (c := 16) (k := 4) ez7_1 (by decide) (by decide)); have q3 := FF.out hk0_2; have q4 := FF.out hk0_17; have q5 := FF.out hk0_21; have q6 := FF.out hk0_25; have q7 := FF.out hk4_1; have q8 := FF.out hp20_6; have q9 := FF.out hp123_7; have q10 := FF.out hp123_8; have q11 := FF.out hp123_9; have q12 := FF.out hp123_10; have q13 := FF.out hp126_7; have q14 := FF.out hp126_9; have q15 := FF.out t206_2; have q16 := FF.out hp212_7; have q17 := (show (0 : Int32).toInt = 0 from by decide); omega)⟩ hP hD hS [0, 1, 2] rfl (by decide) rfl (Nat.le_of_ble_eq_true rfl) (Nat.le_of_ble_eq_true rfl)
      · have t80_2 := FF.mk (i_eq c80_1)
        have r80_3 : rg z7_1 8 8 := rg_eqA t80_2 r7_2 (show rg (8 : Int32) 8 8 from rg_l (by decide)) (by decide)
        refine lv_aload_n hx hb dX10_turnOp_83 rfl (lv_at hl 0 rfl) ?_
        refine lv_iload hx hb dX10_turnOp_84 (lv_at hl 4 rfl) ?_
        have b96 : ∀ (j96_s0 : Int32) (H : Heap) (locs : List Loc) (ls : Array Slot), (rg j96_s0 51 59) → lv_has ls 9 [(0, .ref tl), (5, .int r14_1), (6, .int r20_1)] → va_P D vwCl [(tl, .inr (10, [.ref tls, .ref o0, .ref p0, .int x_tl_3, .int x_tl_4])), (o0, .inr (5, [.ref o0r, .int x_o0_1])), (o0r, .inl (ct 1, 60000, .inl g_o0r))] H → va_D A [(tl, .inr (10, [.ref tls, .ref o0, .ref p0, .int x_tl_3, .int x_tl_4])), (o0, .inr (5, [.ref o0r, .int x_o0_1])), (o0r, .inl (ct 1, 60000, .inl g_o0r))] → va_S A s.heap H locs → W p l e ({ frames := 4, cells := 0, slots := 0, locals := 91 }) s m [.ref tl, .long v0].toArray below meth c H locs 0 0 Q (F0 m 96 ls [.int j96_s0, .ref tl]) := by
          intro j96_s0 H locs ls r96_1001 hl hP hD hS
          refine lv_bipush (v := 32) hx hb dX10_turnOp_96 (by decide) ?_
          refine lv_iconst (v := 0) hx hb dX10_turnOp_98 (by decide) ?_
          refine lv_iload hx hb dX10_turnOp_99 (lv_at hl 1 rfl) ?_
          refine lv_iconst (v := 0) hx hb dX10_turnOp_101 (by decide) ?_
          refine lv_iload hx hb dX10_turnOp_102 (lv_at hl 1 rfl) ?_
          refine go_v (k1 := 0) (n1 := 0) (wr := []) [0, 1, 2] [] (rn_V (As := [.int j96_s0, .int 32, .int 0, .int r14_1, .int 0, .int r14_1]) (rest := []) (c_X10_putOp l D ct tl j96_s0 (32 : Int32) (0 : Int32) r14_1 (0 : Int32) r14_1 tls o0 p0 x_tl_3 x_tl_4 o0r x_o0_1 g_o0r h_x_tl_3 (rg_w h_x_tl_4 (by decide)) h_x_o0_1 _) (cb_of (n := 6) hn mw_1329 mw_10 mw_1326 mhX10_putOp ⟨(Nat.le_of_ble_eq_true rfl), (Nat.le_of_ble_eq_true rfl)⟩) hx hb hml hown hn hK hSK hZ hS mw_1328 mw_s151 (ci := 10) (q0 := 0) rfl rfl rfl rfl hl.1 (Nat.le_of_ble_eq_true rfl) dX10_turnOp_104 ⟨(Nat.le_of_ble_eq_true rfl), (Nat.le_of_ble_eq_true rfl)⟩) hP hD hS hA rfl rfl (by decide) (by decide) (by decide) (Nat.le_of_ble_eq_true rfl) (Nat.le_of_ble_eq_true rfl) (fun u104_2 H locs hp104_3 hP hD hS => ?_)
          obtain ⟨y_tl_4104_4, k_o0r104_5⟩ := u104_2
          obtain ⟨hp104_6, hp104_7⟩ := hp104_3
          have hp104_6 : rg y_tl_4104_4 1 1000001 := hp104_6
          replace hp104_7 : FF (y_tl_4104_4.toInt = x_tl_4.toInt + 1) := hp104_7
          have hP : va_P D vwCl [(tl, .inr (10, [.ref tls, .ref o0, .ref p0, .int x_tl_3, .int y_tl_4104_4])), (o0, .inr (5, [.ref o0r, .int x_o0_1])), (o0r, .inl (ct 1, 60000, .inl k_o0r104_5))] _ := hP
          have hD : va_D A [(tl, .inr (10, [.ref tls, .ref o0, .ref p0, .int x_tl_3, .int y_tl_4104_4])), (o0, .inr (5, [.ref o0r, .int x_o0_1])), (o0r, .inl (ct 1, 60000, .inl k_o0r104_5))] := hD
          refine lv_goto (tgt := 204) hx hb dX10_turnOp_107 (by decide) ?_
          refine lv_iload hx hb dX10_turnOp_204 (lv_at hl 2 rfl) ?_
          refine lv_if_ne (tgt := 215) hx hb dX10_turnOp_206 (by decide) (fun c206_1 => ?_) (fun c206_1 => ?_)
          · have t206_2 := FF.mk (i_ne c206_1)
            have r206_3 : rg r20_1 1 1 := rg_neAl t206_2 hp20_4 (show rg (0 : Int32) 0 0 from rg_l (by decide)) (by decide)
            exact endq_v hQ hx hb hr hlocks dX10_turnOp_215 (y_tl_4104_4, k_o0r104_5) ⟨hp104_6, (show x_tl_4.toInt + 1 ≤ y_tl_4104_4.toInt ∧ y_tl_4104_4.toInt ≤ x_tl_4.toInt + 9 by have q0 := FF.out hp104_7; omega), (show y_tl_4104_4.toInt = x_tl_4.toInt + ((d : Nat) : Int) by have q0 := r80_3.1; have q1 := (eq_shr (c := 16) (k := 4) ez7_1 (by decide) (by decide)); have q2 := r206_3.1; have q3 := r206_3.2; have q4 := FF.out hk0_2; have q5 := FF.out hk0_4; have q6 := FF.out hk0_8; have q7 := FF.out hk0_12; have q8 := FF.out hk4_1; have q9 := FF.out hp20_5; have q10 := FF.out t80_2; have q11 := FF.out hp104_7; have q12 := (show (8 : Int32).toInt = 8 from by decide); omega)⟩ hP hD hS [0, 1, 2] rfl (by decide) rfl (Nat.le_of_ble_eq_true rfl) (Nat.le_of_ble_eq_true rfl)
          · have t206_2 := FF.mk (i_eq c206_1)
            have r206_3 : rg r20_1 0 0 := rg_eqA t206_2 hp20_4 (show rg (0 : Int32) 0 0 from rg_l (by decide)) (by decide)
            refine lv_aload_n hx hb dX10_turnOp_209 rfl (lv_at hl 0 rfl) ?_
            refine lv_iload hx hb dX10_turnOp_210 (lv_at hl 1 rfl) ?_
            refine go_v (k1 := 0) (n1 := 0) (wr := []) [0, 1, 2] [] (rn_V (As := [.int r14_1]) (rest := []) (c_X10_putCut l D ct tl r14_1 tls o0 p0 x_tl_3 y_tl_4104_4 o0r x_o0_1 k_o0r104_5 h_x_tl_3 (rg_of (show 0 ≤ y_tl_4104_4.toInt ∧ y_tl_4104_4.toInt ≤ 999950 by have q0 := hp104_6.1; have q1 := h_x_tl_4.2; have q2 := FF.out hp104_7; omega)) h_x_o0_1 _) (cb_of (n := 1) hn mw_1358 mw_10 mw_1355 mhX10_putCut ⟨(Nat.le_of_ble_eq_true rfl), (Nat.le_of_ble_eq_true rfl)⟩) hx hb hml hown hn hK hSK hZ hS mw_1357 mw_s157 (ci := 10) (q0 := 0) rfl rfl rfl rfl hl.1 (Nat.le_of_ble_eq_true rfl) dX10_turnOp_212 ⟨(Nat.le_of_ble_eq_true rfl), (Nat.le_of_ble_eq_true rfl)⟩) hP hD hS hA rfl rfl (by decide) (by decide) (by decide) (Nat.le_of_ble_eq_true rfl) (Nat.le_of_ble_eq_true rfl) (fun u212_2 H locs hp212_3 hP hD hS => ?_)
            obtain ⟨y_tl_4212_4, k_o0r212_5⟩ := u212_2
            obtain ⟨hp212_6, hp212_7⟩ := hp212_3
            have hp212_6 : rg y_tl_4212_4 1 1000001 := hp212_6
            replace hp212_7 : FF (y_tl_4212_4.toInt = y_tl_4104_4.toInt + 2) := hp212_7
            have hP : va_P D vwCl [(tl, .inr (10, [.ref tls, .ref o0, .ref p0, .int x_tl_3, .int y_tl_4212_4])), (o0, .inr (5, [.ref o0r, .int x_o0_1])), (o0r, .inl (ct 1, 60000, .inl k_o0r212_5))] _ := hP
            have hD : va_D A [(tl, .inr (10, [.ref tls, .ref o0, .ref p0, .int x_tl_3, .int y_tl_4212_4])), (o0, .inr (5, [.ref o0r, .int x_o0_1])), (o0r, .inl (ct 1, 60000, .inl k_o0r212_5))] := hD
            exact endq_v hQ hx hb hr hlocks dX10_turnOp_215 (y_tl_4212_4, k_o0r212_5) ⟨hp212_6, (show x_tl_4.toInt + 1 ≤ y_tl_4212_4.toInt ∧ y_tl_4212_4.toInt ≤ x_tl_4.toInt + 9 by have q0 := FF.out hp104_7; have q1 := FF.out hp212_7; omega), (show y_tl_4212_4.toInt = x_tl_4.toInt + ((d : Nat) : Int) by have q0 := r80_3.1; have q1 := (eq_shr (c := 16) (k := 4) ez7_1 (by decide) (by decide)); have q2 := FF.out hk0_2; have q3 := FF.out hk0_16; have q4 := FF.out hk0_20; have q5 := FF.out hk0_24; have q6 := FF.out hk4_1; have q7 := FF.out hp20_6; have q8 := FF.out t80_2; have q9 := FF.out hp104_7; have q10 := FF.out t206_2; have q11 := FF.out hp212_7; have q12 := (show (0 : Int32).toInt = 0 from by decide); have q13 := (show (8 : Int32).toInt = 8 from by decide); omega)⟩ hP hD hS [0, 1, 2] rfl (by decide) rfl (Nat.le_of_ble_eq_true rfl) (Nat.le_of_ble_eq_true rfl)
        refine lv_if_eq (tgt := 94) hx hb dX10_turnOp_86 (by decide) (fun c86_1 => ?_) (fun c86_1 => ?_)
        · have t86_2 := FF.mk (i_eq c86_1)
          have r86_3 : rg r20_1 0 0 := rg_eqA t86_2 hp20_4 (show rg (0 : Int32) 0 0 from rg_l (by decide)) (by decide)
          refine lv_bipush (v := 59) hx hb dX10_turnOp_94 (by decide) ?_
          exact b96 (59 : Int32) H locs ls (rg_w (show rg (59 : Int32) 59 59 from rg_l (by decide)) (by decide)) (lv_sub hl [0, 3, 4] rfl) hP hD hS
        · have t86_2 := FF.mk (i_ne c86_1)
          have r86_3 : rg r20_1 1 1 := rg_neAl t86_2 hp20_4 (show rg (0 : Int32) 0 0 from rg_l (by decide)) (by decide)
          refine lv_bipush (v := 51) hx hb dX10_turnOp_89 (by decide) ?_
          refine lv_goto (tgt := 96) hx hb dX10_turnOp_91 (by decide) ?_
          exact b96 (51 : Int32) H locs ls (rg_w (show rg (51 : Int32) 51 51 from rg_l (by decide)) (by decide)) (lv_sub hl [0, 3, 4] rfl) hP hD hS
    · have t56_2 := FF.mk (i_eq c56_1)
      have r56_3 : rg z7_1 11 11 := rg_eqA t56_2 r7_2 (show rg (11 : Int32) 11 11 from rg_l (by decide)) (by decide)
      refine lv_aload_n hx hb dX10_turnOp_59 rfl (lv_at hl 0 rfl) ?_
      refine lv_iload hx hb dX10_turnOp_60 (lv_at hl 3 rfl) ?_
      refine lv_lload_n hx hb dX10_turnOp_62 rfl (lv_at hl 1 rfl) ?_
      refine go_i (k1 := 0) (n1 := 0) (wr := [(tl, .inr (10, [.ref tls, .ref o0, .ref p0, .int x_tl_3, .int x_tl_4])), (o0, .inr (5, [.ref o0r, .int x_o0_1])), (o0r, .inl (ct 1, 60000, .inl g_o0r))]) [] [0, 1, 2] (rn_SN (As := [.long v0]) (rest := [.int r14_1, .ref tl]) (c_X7_sOf l D ct v0  _) (cn_of (n := 1) hn mw_989 mw_7 mw_1321 mhX7_sOf ⟨(Nat.le_of_ble_eq_true rfl), (Nat.le_of_ble_eq_true rfl)⟩) hx hb hml hown hn hK hSK hZ hS mw_988 rfl hl.1 (Nat.le_of_ble_eq_true rfl) dX10_turnOp_63 ⟨(Nat.le_of_ble_eq_true rfl), (Nat.le_of_ble_eq_true rfl)⟩) hP hD hS hA rfl rfl (by decide) (by decide) (by decide) (Nat.le_of_ble_eq_true rfl) (Nat.le_of_ble_eq_true rfl) (fun r63_1 u63_2 H locs hp63_3 hP hD hS => ?_)
      obtain ⟨hp63_4, hp63_5⟩ := hp63_3
      have hp63_4 : rg r63_1 0 15 := hp63_4
      replace hp63_5 : FF (r63_1.toInt = (v0.toInt / 4096) % 16) := hp63_5
      have hP : va_P D vwCl [(tl, .inr (10, [.ref tls, .ref o0, .ref p0, .int x_tl_3, .int x_tl_4])), (o0, .inr (5, [.ref o0r, .int x_o0_1])), (o0r, .inl (ct 1, 60000, .inl g_o0r))] _ := hP
      have hD : va_D A [(tl, .inr (10, [.ref tls, .ref o0, .ref p0, .int x_tl_3, .int x_tl_4])), (o0, .inr (5, [.ref o0r, .int x_o0_1])), (o0r, .inl (ct 1, 60000, .inl g_o0r))] := hD
      refine go_i (k1 := 0) (n1 := 0) (wr := [(tl, .inr (10, [.ref tls, .ref o0, .ref p0, .int x_tl_3, .int x_tl_4])), (o0, .inr (5, [.ref o0r, .int x_o0_1])), (o0r, .inl (ct 1, 60000, .inl g_o0r))]) [] [0, 1, 2] (rn_S (As := [.int r63_1]) (rest := [.int r14_1, .ref tl]) (c_X10_placeOf l D ct r63_1  _) (cb_of (n := 1) hn mw_1308 mw_10 mw_1306 mhX10_placeOf ⟨(Nat.le_of_ble_eq_true rfl), (Nat.le_of_ble_eq_true rfl)⟩) hx hb hml hown hn hK hSK hZ hS mw_1307 rfl hl.1 (Nat.le_of_ble_eq_true rfl) dX10_turnOp_66 ⟨(Nat.le_of_ble_eq_true rfl), (Nat.le_of_ble_eq_true rfl)⟩) hP hD hS hA rfl rfl (by decide) (by decide) (by decide) (Nat.le_of_ble_eq_true rfl) (Nat.le_of_ble_eq_true rfl) (fun r66_1 u66_2 H locs hp66_3 hP hD hS => ?_)
      have hP : va_P D vwCl [(tl, .inr (10, [.ref tls, .ref o0, .ref p0, .int x_tl_3, .int x_tl_4])), (o0, .inr (5, [.ref o0r, .int x_o0_1])), (o0r, .inl (ct 1, 60000, .inl g_o0r))] _ := hP
      have hD : va_D A [(tl, .inr (10, [.ref tls, .ref o0, .ref p0, .int x_tl_3, .int x_tl_4])), (o0, .inr (5, [.ref o0r, .int x_o0_1])), (o0r, .inl (ct 1, 60000, .inl g_o0r))] := hD
      refine lv_iconst (v := 0) hx hb dX10_turnOp_69 (by decide) ?_
      refine go_v (k1 := 0) (n1 := 0) (wr := []) [0, 1, 2] [] (rn_V (As := [.int r14_1, .int r66_1, .int 0]) (rest := []) (c_X10_putAdd l D ct tl r14_1 r66_1 (0 : Int32) tls o0 p0 x_tl_3 x_tl_4 o0r x_o0_1 g_o0r h_x_tl_3 (rg_w h_x_tl_4 (by decide)) h_x_o0_1 _) (cb_of (n := 3) hn mw_1325 mw_10 mw_1322 mhX10_putAdd ⟨(Nat.le_of_ble_eq_true rfl), (Nat.le_of_ble_eq_true rfl)⟩) hx hb hml hown hn hK hSK hZ hS mw_1324 mw_s150 (ci := 10) (q0 := 0) rfl rfl rfl rfl hl.1 (Nat.le_of_ble_eq_true rfl) dX10_turnOp_70 ⟨(Nat.le_of_ble_eq_true rfl), (Nat.le_of_ble_eq_true rfl)⟩) hP hD hS hA rfl rfl (by decide) (by decide) (by decide) (Nat.le_of_ble_eq_true rfl) (Nat.le_of_ble_eq_true rfl) (fun u70_2 H locs hp70_3 hP hD hS => ?_)
      obtain ⟨y_tl_470_4, k_o0r70_5⟩ := u70_2
      obtain ⟨hp70_6, hp70_7⟩ := hp70_3
      have hp70_6 : rg y_tl_470_4 1 1000001 := hp70_6
      replace hp70_7 : FF (y_tl_470_4.toInt = x_tl_4.toInt + 1) := hp70_7
      have hP : va_P D vwCl [(tl, .inr (10, [.ref tls, .ref o0, .ref p0, .int x_tl_3, .int y_tl_470_4])), (o0, .inr (5, [.ref o0r, .int x_o0_1])), (o0r, .inl (ct 1, 60000, .inl k_o0r70_5))] _ := hP
      have hD : va_D A [(tl, .inr (10, [.ref tls, .ref o0, .ref p0, .int x_tl_3, .int y_tl_470_4])), (o0, .inr (5, [.ref o0r, .int x_o0_1])), (o0r, .inl (ct 1, 60000, .inl k_o0r70_5))] := hD
      refine lv_goto (tgt := 204) hx hb dX10_turnOp_73 (by decide) ?_
      refine lv_iload hx hb dX10_turnOp_204 (lv_at hl 4 rfl) ?_
      refine lv_if_ne (tgt := 215) hx hb dX10_turnOp_206 (by decide) (fun c206_1 => ?_) (fun c206_1 => ?_)
      · have t206_2 := FF.mk (i_ne c206_1)
        have r206_3 : rg r20_1 1 1 := rg_neAl t206_2 hp20_4 (show rg (0 : Int32) 0 0 from rg_l (by decide)) (by decide)
        exact endq_v hQ hx hb hr hlocks dX10_turnOp_215 (y_tl_470_4, k_o0r70_5) ⟨hp70_6, (show x_tl_4.toInt + 1 ≤ y_tl_470_4.toInt ∧ y_tl_470_4.toInt ≤ x_tl_4.toInt + 9 by have q0 := FF.out hp70_7; omega), (show y_tl_470_4.toInt = x_tl_4.toInt + ((d : Nat) : Int) by have q0 := r56_3.1; have q1 := r56_3.2; have q2 := (eq_shr (c := 16) (k := 4) ez7_1 (by decide) (by decide)); have q3 := r206_3.1; have q4 := r206_3.2; have q5 := FF.out hk0_3; have q6 := FF.out hk4_1; have q7 := FF.out hp20_5; have q8 := FF.out hi52_1001; have q9 := FF.out t56_2; have q10 := FF.out hp70_7; have q11 := (show (11 : Int32).toInt = 11 from by decide); omega)⟩ hP hD hS [0, 1, 2] rfl (by decide) rfl (Nat.le_of_ble_eq_true rfl) (Nat.le_of_ble_eq_true rfl)
      · have t206_2 := FF.mk (i_eq c206_1)
        have r206_3 : rg r20_1 0 0 := rg_eqA t206_2 hp20_4 (show rg (0 : Int32) 0 0 from rg_l (by decide)) (by decide)
        refine lv_aload_n hx hb dX10_turnOp_209 rfl (lv_at hl 0 rfl) ?_
        refine lv_iload hx hb dX10_turnOp_210 (lv_at hl 3 rfl) ?_
        refine go_v (k1 := 0) (n1 := 0) (wr := []) [0, 1, 2] [] (rn_V (As := [.int r14_1]) (rest := []) (c_X10_putCut l D ct tl r14_1 tls o0 p0 x_tl_3 y_tl_470_4 o0r x_o0_1 k_o0r70_5 h_x_tl_3 (rg_of (show 0 ≤ y_tl_470_4.toInt ∧ y_tl_470_4.toInt ≤ 999950 by have q0 := hp70_6.1; have q1 := h_x_tl_4.2; have q2 := FF.out hp70_7; omega)) h_x_o0_1 _) (cb_of (n := 1) hn mw_1358 mw_10 mw_1355 mhX10_putCut ⟨(Nat.le_of_ble_eq_true rfl), (Nat.le_of_ble_eq_true rfl)⟩) hx hb hml hown hn hK hSK hZ hS mw_1357 mw_s157 (ci := 10) (q0 := 0) rfl rfl rfl rfl hl.1 (Nat.le_of_ble_eq_true rfl) dX10_turnOp_212 ⟨(Nat.le_of_ble_eq_true rfl), (Nat.le_of_ble_eq_true rfl)⟩) hP hD hS hA rfl rfl (by decide) (by decide) (by decide) (Nat.le_of_ble_eq_true rfl) (Nat.le_of_ble_eq_true rfl) (fun u212_2 H locs hp212_3 hP hD hS => ?_)
        obtain ⟨y_tl_4212_4, k_o0r212_5⟩ := u212_2
        obtain ⟨hp212_6, hp212_7⟩ := hp212_3
        have hp212_6 : rg y_tl_4212_4 1 1000001 := hp212_6
        replace hp212_7 : FF (y_tl_4212_4.toInt = y_tl_470_4.toInt + 2) := hp212_7
        have hP : va_P D vwCl [(tl, .inr (10, [.ref tls, .ref o0, .ref p0, .int x_tl_3, .int y_tl_4212_4])), (o0, .inr (5, [.ref o0r, .int x_o0_1])), (o0r, .inl (ct 1, 60000, .inl k_o0r212_5))] _ := hP
        have hD : va_D A [(tl, .inr (10, [.ref tls, .ref o0, .ref p0, .int x_tl_3, .int y_tl_4212_4])), (o0, .inr (5, [.ref o0r, .int x_o0_1])), (o0r, .inl (ct 1, 60000, .inl k_o0r212_5))] := hD
        exact endq_v hQ hx hb hr hlocks dX10_turnOp_215 (y_tl_4212_4, k_o0r212_5) ⟨hp212_6, (show x_tl_4.toInt + 1 ≤ y_tl_4212_4.toInt ∧ y_tl_4212_4.toInt ≤ x_tl_4.toInt + 9 by have q0 := FF.out hp70_7; have q1 := FF.out hp212_7; omega), (show y_tl_4212_4.toInt = x_tl_4.toInt + ((d : Nat) : Int) by have q0 := r56_3.1; have q1 := r56_3.2; have q2 := (eq_shr (c := 16) (k := 4) ez7_1 (by decide) (by decide)); have q3 := FF.out hk0_15; have q4 := FF.out hk4_1; have q5 := FF.out hp20_6; have q6 := FF.out hi52_1001; have q7 := FF.out t56_2; have q8 := FF.out hp70_7; have q9 := FF.out t206_2; have q10 := FF.out hp212_7; have q11 := (show (0 : Int32).toInt = 0 from by decide); have q12 := (show (11 : Int32).toInt = 11 from by decide); omega)⟩ hP hD hS [0, 1, 2] rfl (by decide) rfl (Nat.le_of_ble_eq_true rfl) (Nat.le_of_ble_eq_true rfl)
  refine lv_icmp_ne (tgt := 52) hx hb dX10_turnOp_29 (by decide) (fun c29_1 => ?_) (fun c29_1 => ?_)
  · have t29_2 := FF.mk (i_ne c29_1)
    exact b52  H locs ls (show z7_1.toInt ≠ 11 ∨ (cc.toInt / 8) % 2 = 1 by have q0 := FF.out t29_2; have q1 := (show (11 : Int32).toInt = 11 from by decide); omega) (lv_sub hl [4, 5, 2, 1, 0] rfl) hP hD hS
  · have t29_2 := FF.mk (i_eq c29_1)
    have r29_3 : rg z7_1 11 11 := rg_eqA t29_2 r7_2 (show rg (11 : Int32) 11 11 from rg_l (by decide)) (by decide)
    refine lv_iload_n hx hb dX10_turnOp_32 rfl (lv_at hl 3 rfl) ?_
    refine go_i (k1 := 0) (n1 := 0) (wr := [(tl, .inr (10, [.ref tls, .ref o0, .ref p0, .int x_tl_3, .int x_tl_4])), (o0, .inr (5, [.ref o0r, .int x_o0_1])), (o0r, .inl (ct 1, 60000, .inl g_o0r))]) [] [0, 1, 2] (rn_SN (As := [.int r1_1]) (rest := []) (c_X7_hasS_w l D ct r1_1 hp1_4 _) (cn_of (n := 1) hn mw_968 mw_7 mw_1310 mhX7_hasS ⟨(Nat.le_of_ble_eq_true rfl), (Nat.le_of_ble_eq_true rfl)⟩) hx hb hml hown hn hK hSK hZ hS mw_967 rfl hl.1 (Nat.le_of_ble_eq_true rfl) dX10_turnOp_33 ⟨(Nat.le_of_ble_eq_true rfl), (Nat.le_of_ble_eq_true rfl)⟩) hP hD hS hA rfl rfl (by decide) (by decide) (by decide) (Nat.le_of_ble_eq_true rfl) (Nat.le_of_ble_eq_true rfl) (fun r33_1 u33_2 H locs hp33_3 hP hD hS => ?_)
    obtain ⟨hp33_4, hp33_5, hp33_6⟩ := hp33_3
    have hp33_4 : rg r33_1 0 1 := hp33_4
    replace hp33_5 : FF (r33_1.toInt = 1 → (r1_1.toInt / 8) % 2 = 1) := hp33_5
    replace hp33_6 : FF (r33_1.toInt = 0 → (r1_1.toInt / 8) % 2 = 0) := hp33_6
    have hP : va_P D vwCl [(tl, .inr (10, [.ref tls, .ref o0, .ref p0, .int x_tl_3, .int x_tl_4])), (o0, .inr (5, [.ref o0r, .int x_o0_1])), (o0r, .inl (ct 1, 60000, .inl g_o0r))] _ := hP
    have hD : va_D A [(tl, .inr (10, [.ref tls, .ref o0, .ref p0, .int x_tl_3, .int x_tl_4])), (o0, .inr (5, [.ref o0r, .int x_o0_1])), (o0r, .inl (ct 1, 60000, .inl g_o0r))] := hD
    refine lv_if_ne (tgt := 52) hx hb dX10_turnOp_36 (by decide) (fun c36_1 => ?_) (fun c36_1 => ?_)
    · have t36_2 := FF.mk (i_ne c36_1)
      have r36_3 : rg r33_1 1 1 := rg_neAl t36_2 hp33_4 (show rg (0 : Int32) 0 0 from rg_l (by decide)) (by decide)
      exact b52  H locs ls (show z7_1.toInt ≠ 11 ∨ (cc.toInt / 8) % 2 = 1 by have q0 := r36_3.1; have q1 := r36_3.2; have q2 := FF.out hk4_1; have q3 := FF.out hp33_5; omega) (lv_sub hl [4, 5, 2, 1, 0] rfl) hP hD hS
    · have t36_2 := FF.mk (i_eq c36_1)
      have r36_3 : rg r33_1 0 0 := rg_eqA t36_2 hp33_4 (show rg (0 : Int32) 0 0 from rg_l (by decide)) (by decide)
      refine lv_aload_n hx hb dX10_turnOp_39 rfl (lv_at hl 4 rfl) ?_
      refine lv_iload hx hb dX10_turnOp_40 (lv_at hl 1 rfl) ?_
      refine lv_lload_n hx hb dX10_turnOp_42 rfl (lv_at hl 5 rfl) ?_
      refine go_i (k1 := 0) (n1 := 0) (wr := [(tl, .inr (10, [.ref tls, .ref o0, .ref p0, .int x_tl_3, .int x_tl_4])), (o0, .inr (5, [.ref o0r, .int x_o0_1])), (o0r, .inl (ct 1, 60000, .inl g_o0r))]) [] [0, 1, 2] (rn_SN (As := [.long v0]) (rest := [.int r14_1, .ref tl]) (c_X7_kOf_w l D ct v0  _) (cn_of (n := 1) hn mw_995 mw_7 mw_1311 mhX7_kOf ⟨(Nat.le_of_ble_eq_true rfl), (Nat.le_of_ble_eq_true rfl)⟩) hx hb hml hown hn hK hSK hZ hS mw_994 rfl hl.1 (Nat.le_of_ble_eq_true rfl) dX10_turnOp_43 ⟨(Nat.le_of_ble_eq_true rfl), (Nat.le_of_ble_eq_true rfl)⟩) hP hD hS hA rfl rfl (by decide) (by decide) (by decide) (Nat.le_of_ble_eq_true rfl) (Nat.le_of_ble_eq_true rfl) (fun r43_1 u43_2 H locs hp43_3 hP hD hS => ?_)
      have hp43_4 := hp43_3
      replace hp43_4 : FF (r43_1.toInt = v0.toInt / 4294967296) := hp43_4
      have hP : va_P D vwCl [(tl, .inr (10, [.ref tls, .ref o0, .ref p0, .int x_tl_3, .int x_tl_4])), (o0, .inr (5, [.ref o0r, .int x_o0_1])), (o0r, .inl (ct 1, 60000, .inl g_o0r))] _ := hP
      have hD : va_D A [(tl, .inr (10, [.ref tls, .ref o0, .ref p0, .int x_tl_3, .int x_tl_4])), (o0, .inr (5, [.ref o0r, .int x_o0_1])), (o0r, .inl (ct 1, 60000, .inl g_o0r))] := hD
      have hk46_1 : FF (r43_1.toInt = kk.toInt) := FF.mk (by have h1 := FF.out hq1; have h2 := FF.out hp43_4; omega)
      refine go_v (k1 := 0) (n1 := 0) (wr := []) [0, 1, 2] [] (rn_V (As := [.int r14_1, .int r43_1]) (rest := []) (c_X10_putNumber_w l D ct tl r14_1 r43_1 tls o0 p0 x_tl_3 x_tl_4 o0r x_o0_1 g_o0r h_x_tl_3 (rg_w h_x_tl_4 (by decide)) h_x_o0_1 _) (cb_of (n := 2) hn mw_1315 mw_10 mw_1312 mhX10_putNumber ⟨(Nat.le_of_ble_eq_true rfl), (Nat.le_of_ble_eq_true rfl)⟩) hx hb hml hown hn hK hSK hZ hS mw_1314 mw_s148 (ci := 10) (q0 := 0) rfl rfl rfl rfl hl.1 (Nat.le_of_ble_eq_true rfl) dX10_turnOp_46 ⟨(Nat.le_of_ble_eq_true rfl), (Nat.le_of_ble_eq_true rfl)⟩) hP hD hS hA rfl rfl (by decide) (by decide) (by decide) (Nat.le_of_ble_eq_true rfl) (Nat.le_of_ble_eq_true rfl) (fun u46_3 H locs hp46_4 hP hD hS => ?_)
      obtain ⟨y_tl_446_5, k_o0r46_6⟩ := u46_3
      obtain ⟨hp46_7, hp46_8, hp46_9, hp46_10⟩ := hp46_4
      have hp46_7 : rg y_tl_446_5 1 1000001 := hp46_7
      replace hp46_8 : FF (x_tl_4.toInt + 1 ≤ y_tl_446_5.toInt ∧ y_tl_446_5.toInt ≤ x_tl_4.toInt + 2) := hp46_8
      replace hp46_9 : FF (-2048 ≤ r43_1.toInt ∧ r43_1.toInt ≤ 2047 → y_tl_446_5.toInt = x_tl_4.toInt + 1) := hp46_9
      replace hp46_10 : FF (r43_1.toInt < -2048 ∨ 2047 < r43_1.toInt → y_tl_446_5.toInt = x_tl_4.toInt + 2) := hp46_10
      have hP : va_P D vwCl [(tl, .inr (10, [.ref tls, .ref o0, .ref p0, .int x_tl_3, .int y_tl_446_5])), (o0, .inr (5, [.ref o0r, .int x_o0_1])), (o0r, .inl (ct 1, 60000, .inl k_o0r46_6))] _ := hP
      have hD : va_D A [(tl, .inr (10, [.ref tls, .ref o0, .ref p0, .int x_tl_3, .int y_tl_446_5])), (o0, .inr (5, [.ref o0r, .int x_o0_1])), (o0r, .inl (ct 1, 60000, .inl k_o0r46_6))] := hD
      refine lv_goto (tgt := 204) hx hb dX10_turnOp_49 (by decide) ?_
      refine lv_iload hx hb dX10_turnOp_204 (lv_at hl 0 rfl) ?_
      refine lv_if_ne (tgt := 215) hx hb dX10_turnOp_206 (by decide) (fun c206_1 => ?_) (fun c206_1 => ?_)
      · have t206_2 := FF.mk (i_ne c206_1)
        have r206_3 : rg r20_1 1 1 := rg_neAl t206_2 hp20_4 (show rg (0 : Int32) 0 0 from rg_l (by decide)) (by decide)
        exact endq_v hQ hx hb hr hlocks dX10_turnOp_215 (y_tl_446_5, k_o0r46_6) ⟨hp46_7, (show x_tl_4.toInt + 1 ≤ y_tl_446_5.toInt ∧ y_tl_446_5.toInt ≤ x_tl_4.toInt + 9 by have q0 := FF.out hp46_8; omega), (show y_tl_446_5.toInt = x_tl_4.toInt + ((d : Nat) : Int) by have q0 := r206_3.1; have q1 := r206_3.2; have q2 := (eq_shr (c := 16) (k := 4) ez7_1 (by decide) (by decide)); have q3 := FF.out hk0_2; have q4 := FF.out hk0_7; have q5 := FF.out hk0_11; have q6 := FF.out hk4_1; have q7 := FF.out hp20_5; have q8 := FF.out t29_2; have q9 := FF.out hp33_6; have q10 := FF.out t36_2; have q11 := FF.out hk46_1; have q12 := FF.out hp46_8; have q13 := FF.out hp46_9; have q14 := FF.out hp46_10; have q15 := (show (0 : Int32).toInt = 0 from by decide); have q16 := (show (11 : Int32).toInt = 11 from by decide); omega)⟩ hP hD hS [0, 1, 2] rfl (by decide) rfl (Nat.le_of_ble_eq_true rfl) (Nat.le_of_ble_eq_true rfl)
      · have t206_2 := FF.mk (i_eq c206_1)
        have r206_3 : rg r20_1 0 0 := rg_eqA t206_2 hp20_4 (show rg (0 : Int32) 0 0 from rg_l (by decide)) (by decide)
        refine lv_aload_n hx hb dX10_turnOp_209 rfl (lv_at hl 4 rfl) ?_
        refine lv_iload hx hb dX10_turnOp_210 (lv_at hl 1 rfl) ?_
        refine go_v (k1 := 0) (n1 := 0) (wr := []) [0, 1, 2] [] (rn_V (As := [.int r14_1]) (rest := []) (c_X10_putCut l D ct tl r14_1 tls o0 p0 x_tl_3 y_tl_446_5 o0r x_o0_1 k_o0r46_6 h_x_tl_3 (rg_of (show 0 ≤ y_tl_446_5.toInt ∧ y_tl_446_5.toInt ≤ 999950 by have q0 := h_x_tl_4.1; have q1 := h_x_tl_4.2; have q2 := FF.out hp46_8; omega)) h_x_o0_1 _) (cb_of (n := 1) hn mw_1358 mw_10 mw_1355 mhX10_putCut ⟨(Nat.le_of_ble_eq_true rfl), (Nat.le_of_ble_eq_true rfl)⟩) hx hb hml hown hn hK hSK hZ hS mw_1357 mw_s157 (ci := 10) (q0 := 0) rfl rfl rfl rfl hl.1 (Nat.le_of_ble_eq_true rfl) dX10_turnOp_212 ⟨(Nat.le_of_ble_eq_true rfl), (Nat.le_of_ble_eq_true rfl)⟩) hP hD hS hA rfl rfl (by decide) (by decide) (by decide) (Nat.le_of_ble_eq_true rfl) (Nat.le_of_ble_eq_true rfl) (fun u212_2 H locs hp212_3 hP hD hS => ?_)
        obtain ⟨y_tl_4212_4, k_o0r212_5⟩ := u212_2
        obtain ⟨hp212_6, hp212_7⟩ := hp212_3
        have hp212_6 : rg y_tl_4212_4 1 1000001 := hp212_6
        replace hp212_7 : FF (y_tl_4212_4.toInt = y_tl_446_5.toInt + 2) := hp212_7
        have hP : va_P D vwCl [(tl, .inr (10, [.ref tls, .ref o0, .ref p0, .int x_tl_3, .int y_tl_4212_4])), (o0, .inr (5, [.ref o0r, .int x_o0_1])), (o0r, .inl (ct 1, 60000, .inl k_o0r212_5))] _ := hP
        have hD : va_D A [(tl, .inr (10, [.ref tls, .ref o0, .ref p0, .int x_tl_3, .int y_tl_4212_4])), (o0, .inr (5, [.ref o0r, .int x_o0_1])), (o0r, .inl (ct 1, 60000, .inl k_o0r212_5))] := hD
        exact endq_v hQ hx hb hr hlocks dX10_turnOp_215 (y_tl_4212_4, k_o0r212_5) ⟨hp212_6, (show x_tl_4.toInt + 1 ≤ y_tl_4212_4.toInt ∧ y_tl_4212_4.toInt ≤ x_tl_4.toInt + 9 by have q0 := FF.out hp46_8; have q1 := FF.out hp212_7; omega), (show y_tl_4212_4.toInt = x_tl_4.toInt + ((d : Nat) : Int) by have q0 := (eq_shr (c := 16) (k := 4) ez7_1 (by decide) (by decide)); have q1 := FF.out hk0_2; have q2 := FF.out hk0_19; have q3 := FF.out hk0_23; have q4 := FF.out hk4_1; have q5 := FF.out hp20_6; have q6 := FF.out t29_2; have q7 := FF.out hp33_6; have q8 := FF.out t36_2; have q9 := FF.out hk46_1; have q10 := FF.out hp46_8; have q11 := FF.out hp46_9; have q12 := FF.out hp46_10; have q13 := FF.out t206_2; have q14 := FF.out hp212_7; have q15 := (show (0 : Int32).toInt = 0 from by decide); have q16 := (show (11 : Int32).toInt = 11 from by decide); omega)⟩ hP hD hS [0, 1, 2] rfl (by decide) rfl (Nat.le_of_ble_eq_true rfl) (Nat.le_of_ble_eq_true rfl)
