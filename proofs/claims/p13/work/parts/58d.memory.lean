/-! memory, counted -/
set_option maxHeartbeats 2000000 in
theorem c_X10_turnMemory_w (l : Launch) (D : va_G) (ct : Nat → ClassId) (d : Nat) (cc : Int32) (kk : Int32) (oo : Int32) (tl : Nat) (v0 : Int64) (tls : Nat) (o0 : Nat) (p0 : Nat) (x_tl_3 : Int32) (x_tl_4 : Int32) (o0r : Nat) (x_o0_1 : Int32) (g_o0r : Nat → Int32) (h_x_tl_3 : rg x_tl_3 0 1) (h_x_tl_4 : rg x_tl_4 0 999800) (h_x_o0_1 : rg x_o0_1 0 60000) (hq0 : cc.toInt = v0.toInt % 256) (hq1 : kk.toInt = v0.toInt / 4294967296) (hq2 : oo.toInt = (v0.toInt / 65536 + 32768) % 65536 - 32768) (hg0 : TWmem cc.toInt kk.toInt oo.toInt d) : KV (S := Int32 × (Nat → Int32)) l yX10_turnMemory cX10_turnMemory 8 none 3 67 D ct [.ref tl, .long v0] [(tl, .inr (10, [.ref tls, .ref o0, .ref p0, .int x_tl_3, .int x_tl_4])), (o0, .inr (5, [.ref o0r, .int x_o0_1])), (o0r, .inl (ct 1, 60000, .inl g_o0r))] 0 0 (fun (u : Int32 × (Nat → Int32)) => match u with | (y_tl_4, k_o0r) => rg y_tl_4 1 1000001 ∧ (x_tl_4.toInt + 3 ≤ y_tl_4.toInt ∧ y_tl_4.toInt ≤ x_tl_4.toInt + 6) ∧ (y_tl_4.toInt = x_tl_4.toInt + ((d : Nat) : Int))) (fun (u : Int32 × (Nat → Int32)) => match u with | (y_tl_4, k_o0r) => [(tl, .inr (10, [.ref tls, .ref o0, .ref p0, .int x_tl_3, .int y_tl_4])), (o0, .inr (5, [.ref o0r, .int x_o0_1])), (o0r, .inl (ct 1, 60000, .inl k_o0r))]) := by
  refine KVq_of (by decide) (Nat.le_of_ble_eq_true rfl) (fun p e s m below meth c A Q C0 hA H locs hS hP hD hQ ls hl => ?_)
  obtain ⟨hx, hb, hr, hown, hin, hml, hlocks, hn, hK, hZ, hSK⟩ := C0
  have hl : lv_has ls 8 [(0, .ref tl), (1, .long v0)] := hl
  replace hq0 := FF.mk hq0
  replace hq1 := FF.mk hq1
  replace hq2 := FF.mk hq2
  obtain ⟨tw0_1_0, tw0_1_1, tw0_1_2, tw0_1_3, tw0_1_4, tw0_1_5⟩ := hg0
  replace tw0_1_0 := FF.mk tw0_1_0
  replace tw0_1_1 := FF.mk tw0_1_1
  replace tw0_1_2 := FF.mk tw0_1_2
  replace tw0_1_3 := FF.mk tw0_1_3
  replace tw0_1_4 := FF.mk tw0_1_4
  replace tw0_1_5 := FF.mk tw0_1_5
  refine lv_lload_n hx hb dX10_turnMemory_0 rfl (lv_at hl 1 rfl) ?_
  refine go_i (k1 := 0) (n1 := 0) (wr := [(tl, .inr (10, [.ref tls, .ref o0, .ref p0, .int x_tl_3, .int x_tl_4])), (o0, .inr (5, [.ref o0r, .int x_o0_1])), (o0r, .inl (ct 1, 60000, .inl g_o0r))]) [] [0, 1, 2] (rn_SN (As := [.long v0]) (rest := []) (c_X7_codeOf l D ct v0  _) (cn_of (n := 1) hn mw_956 mw_7 mw_1299 mhX7_codeOf ⟨(Nat.le_of_ble_eq_true rfl), (Nat.le_of_ble_eq_true rfl)⟩) hx hb hml hown hn hK hSK hZ hS mw_955 rfl hl.1 (Nat.le_of_ble_eq_true rfl) dX10_turnMemory_1 ⟨(Nat.le_of_ble_eq_true rfl), (Nat.le_of_ble_eq_true rfl)⟩) hP hD hS hA rfl rfl (by decide) (by decide) (by decide) (Nat.le_of_ble_eq_true rfl) (Nat.le_of_ble_eq_true rfl) (fun r1_1 u1_2 H locs hp1_3 hP hD hS => ?_)
  obtain ⟨hp1_4, hp1_5⟩ := hp1_3
  have hp1_4 : rg r1_1 0 255 := hp1_4
  replace hp1_5 : FF (r1_1.toInt = v0.toInt % 256) := hp1_5
  have hP : va_P D vwCl [(tl, .inr (10, [.ref tls, .ref o0, .ref p0, .int x_tl_3, .int x_tl_4])), (o0, .inr (5, [.ref o0r, .int x_o0_1])), (o0r, .inl (ct 1, 60000, .inl g_o0r))] _ := hP
  have hD : va_D A [(tl, .inr (10, [.ref tls, .ref o0, .ref p0, .int x_tl_3, .int x_tl_4])), (o0, .inr (5, [.ref o0r, .int x_o0_1])), (o0r, .inl (ct 1, 60000, .inl g_o0r))] := hD
  have hk4_1 : FF (r1_1.toInt = cc.toInt) := FF.mk (by have h1 := FF.out hq0; have h2 := FF.out hp1_5; omega)
  refine lv_istore_n (lv' := [(3, .int r1_1), (0, .ref tl), (1, .long v0)]) hx hb dX10_turnMemory_4 rfl hl (by decide) rfl (fun ls hl => ?_)
  refine lv_iload_n hx hb dX10_turnMemory_5 rfl (lv_at hl 0 rfl) ?_
  refine go_i (k1 := 0) (n1 := 0) (wr := [(tl, .inr (10, [.ref tls, .ref o0, .ref p0, .int x_tl_3, .int x_tl_4])), (o0, .inr (5, [.ref o0r, .int x_o0_1])), (o0r, .inl (ct 1, 60000, .inl g_o0r))]) [] [0, 1, 2] (rn_SN (As := [.int r1_1]) (rest := []) (c_X7_isLoad_w l D ct r1_1 hp1_4 _) (cn_of (n := 1) hn mw_977 mw_7 mw_1379 mhX7_isLoad ⟨(Nat.le_of_ble_eq_true rfl), (Nat.le_of_ble_eq_true rfl)⟩) hx hb hml hown hn hK hSK hZ hS mw_976 rfl hl.1 (Nat.le_of_ble_eq_true rfl) dX10_turnMemory_6 ⟨(Nat.le_of_ble_eq_true rfl), (Nat.le_of_ble_eq_true rfl)⟩) hP hD hS hA rfl rfl (by decide) (by decide) (by decide) (Nat.le_of_ble_eq_true rfl) (Nat.le_of_ble_eq_true rfl) (fun r6_1 u6_2 H locs hp6_3 hP hD hS => ?_)
  obtain ⟨hp6_4, hp6_5, hp6_6⟩ := hp6_3
  have hp6_4 : rg r6_1 0 1 := hp6_4
  replace hp6_5 : FF (r6_1.toInt = 1 → (r1_1.toInt = 97 ∨ r1_1.toInt = 105 ∨ r1_1.toInt = 113 ∨ r1_1.toInt = 121)) := hp6_5
  replace hp6_6 : FF (r6_1.toInt = 0 → ¬ (r1_1.toInt = 97 ∨ r1_1.toInt = 105 ∨ r1_1.toInt = 113 ∨ r1_1.toInt = 121)) := hp6_6
  have hP : va_P D vwCl [(tl, .inr (10, [.ref tls, .ref o0, .ref p0, .int x_tl_3, .int x_tl_4])), (o0, .inr (5, [.ref o0r, .int x_o0_1])), (o0r, .inl (ct 1, 60000, .inl g_o0r))] _ := hP
  have hD : va_D A [(tl, .inr (10, [.ref tls, .ref o0, .ref p0, .int x_tl_3, .int x_tl_4])), (o0, .inr (5, [.ref o0r, .int x_o0_1])), (o0r, .inl (ct 1, 60000, .inl g_o0r))] := hD
  refine lv_istore (lv' := [(4, .int r6_1), (3, .int r1_1), (0, .ref tl), (1, .long v0)]) hx hb dX10_turnMemory_9 hl (by decide) rfl (fun ls hl => ?_)
  refine lv_iload_n hx hb dX10_turnMemory_11 rfl (lv_at hl 1 rfl) ?_
  refine go_i (k1 := 0) (n1 := 0) (wr := [(tl, .inr (10, [.ref tls, .ref o0, .ref p0, .int x_tl_3, .int x_tl_4])), (o0, .inr (5, [.ref o0r, .int x_o0_1])), (o0r, .inl (ct 1, 60000, .inl g_o0r))]) [] [0, 1, 2] (rn_SN (As := [.int r1_1]) (rest := []) (c_X7_sizeOf_w l D ct r1_1 hp1_4 _) (cn_of (n := 1) hn mw_1150 mw_7 mw_1374 mhX7_sizeOf ⟨(Nat.le_of_ble_eq_true rfl), (Nat.le_of_ble_eq_true rfl)⟩) hx hb hml hown hn hK hSK hZ hS mw_1149 rfl hl.1 (Nat.le_of_ble_eq_true rfl) dX10_turnMemory_12 ⟨(Nat.le_of_ble_eq_true rfl), (Nat.le_of_ble_eq_true rfl)⟩) hP hD hS hA rfl rfl (by decide) (by decide) (by decide) (Nat.le_of_ble_eq_true rfl) (Nat.le_of_ble_eq_true rfl) (fun r12_1 u12_2 H locs hp12_3 hP hD hS => ?_)
  obtain ⟨hp12_4, hp12_5, hp12_6, hp12_7, hp12_8⟩ := hp12_3
  have hp12_4 : rg r12_1 1 8 := hp12_4
  replace hp12_5 : FF ((r1_1.toInt / 8) % 4 = 0 → r12_1.toInt = 4) := hp12_5
  replace hp12_6 : FF ((r1_1.toInt / 8) % 4 = 1 → r12_1.toInt = 2) := hp12_6
  replace hp12_7 : FF ((r1_1.toInt / 8) % 4 = 2 → r12_1.toInt = 1) := hp12_7
  replace hp12_8 : FF ((r1_1.toInt / 8) % 4 = 3 → r12_1.toInt = 8) := hp12_8
  have hP : va_P D vwCl [(tl, .inr (10, [.ref tls, .ref o0, .ref p0, .int x_tl_3, .int x_tl_4])), (o0, .inr (5, [.ref o0r, .int x_o0_1])), (o0r, .inl (ct 1, 60000, .inl g_o0r))] _ := hP
  have hD : va_D A [(tl, .inr (10, [.ref tls, .ref o0, .ref p0, .int x_tl_3, .int x_tl_4])), (o0, .inr (5, [.ref o0r, .int x_o0_1])), (o0r, .inl (ct 1, 60000, .inl g_o0r))] := hD
  refine lv_istore (lv' := [(5, .int r12_1), (4, .int r6_1), (3, .int r1_1), (0, .ref tl), (1, .long v0)]) hx hb dX10_turnMemory_15 hl (by decide) rfl (fun ls hl => ?_)
  refine lv_iload hx hb dX10_turnMemory_17 (lv_at hl 1 rfl) ?_
  have b33 : ∀ (j33_s0 : Int32) (H : Heap) (locs : List Loc) (ls : Array Slot), (rg j33_s0 0 15) → lv_has ls 8 [(0, .ref tl), (1, .long v0), (3, .int r1_1), (4, .int r6_1), (5, .int r12_1)] → va_P D vwCl [(tl, .inr (10, [.ref tls, .ref o0, .ref p0, .int x_tl_3, .int x_tl_4])), (o0, .inr (5, [.ref o0r, .int x_o0_1])), (o0r, .inl (ct 1, 60000, .inl g_o0r))] H → va_D A [(tl, .inr (10, [.ref tls, .ref o0, .ref p0, .int x_tl_3, .int x_tl_4])), (o0, .inr (5, [.ref o0r, .int x_o0_1])), (o0r, .inl (ct 1, 60000, .inl g_o0r))] → va_S A s.heap H locs → W p l e ({ frames := 3, cells := 0, slots := 0, locals := 67 }) s m [.ref tl, .long v0].toArray below meth c H locs 0 0 Q (F0 m 33 ls [.int j33_s0]) := by
    intro j33_s0 H locs ls r33_1001 hl hP hD hS
    refine lv_istore (lv' := [(6, .int j33_s0), (0, .ref tl), (1, .long v0), (3, .int r1_1), (4, .int r6_1), (5, .int r12_1)]) hx hb dX10_turnMemory_33 hl (by decide) rfl (fun ls hl => ?_)
    refine lv_iload hx hb dX10_turnMemory_35 (lv_at hl 5 rfl) ?_
    refine lv_bipush (v := 8) hx hb dX10_turnMemory_37 (by decide) ?_
    have b67 : ∀ (j67_s0 : Int32) (H : Heap) (locs : List Loc) (ls : Array Slot), (rg j67_s0 0 3) → lv_has ls 8 [(0, .ref tl), (1, .long v0), (3, .int r1_1), (4, .int r6_1), (5, .int r12_1), (6, .int j33_s0)] → va_P D vwCl [(tl, .inr (10, [.ref tls, .ref o0, .ref p0, .int x_tl_3, .int x_tl_4])), (o0, .inr (5, [.ref o0r, .int x_o0_1])), (o0r, .inl (ct 1, 60000, .inl g_o0r))] H → va_D A [(tl, .inr (10, [.ref tls, .ref o0, .ref p0, .int x_tl_3, .int x_tl_4])), (o0, .inr (5, [.ref o0r, .int x_o0_1])), (o0r, .inl (ct 1, 60000, .inl g_o0r))] → va_S A s.heap H locs → W p l e ({ frames := 3, cells := 0, slots := 0, locals := 67 }) s m [.ref tl, .long v0].toArray below meth c H locs 0 0 Q (F0 m 67 ls [.int j67_s0]) := by
      intro j67_s0 H locs ls r67_1001 hl hP hD hS
      refine lv_istore (lv' := [(7, .int j67_s0), (0, .ref tl), (1, .long v0), (3, .int r1_1), (4, .int r6_1), (5, .int r12_1), (6, .int j33_s0)]) hx hb dX10_turnMemory_67 hl (by decide) rfl (fun ls hl => ?_)
      refine lv_aload_n hx hb dX10_turnMemory_69 rfl (lv_at hl 1 rfl) ?_
      refine lv_iconst (v := 5) hx hb dX10_turnMemory_70 (by decide) ?_
      refine lv_lload_n hx hb dX10_turnMemory_71 rfl (lv_at hl 2 rfl) ?_
      refine go_i (k1 := 0) (n1 := 0) (wr := [(tl, .inr (10, [.ref tls, .ref o0, .ref p0, .int x_tl_3, .int x_tl_4])), (o0, .inr (5, [.ref o0r, .int x_o0_1])), (o0r, .inl (ct 1, 60000, .inl g_o0r))]) [] [0, 1, 2] (rn_SN (As := [.long v0]) (rest := [.int 5, .ref tl]) (c_X7_offOf_w l D ct v0  _) (cn_of (n := 1) hn mw_992 mw_7 mw_1368 mhX7_offOf ⟨(Nat.le_of_ble_eq_true rfl), (Nat.le_of_ble_eq_true rfl)⟩) hx hb hml hown hn hK hSK hZ hS mw_991 rfl hl.1 (Nat.le_of_ble_eq_true rfl) dX10_turnMemory_72 ⟨(Nat.le_of_ble_eq_true rfl), (Nat.le_of_ble_eq_true rfl)⟩) hP hD hS hA rfl rfl (by decide) (by decide) (by decide) (Nat.le_of_ble_eq_true rfl) (Nat.le_of_ble_eq_true rfl) (fun r72_1 u72_2 H locs hp72_3 hP hD hS => ?_)
      obtain ⟨hp72_4, hp72_5⟩ := hp72_3
      have hp72_4 : rg r72_1 (-32768) 32767 := hp72_4
      replace hp72_5 : FF (r72_1.toInt = (v0.toInt / 65536 + 32768) % 65536 - 32768) := hp72_5
      have hP : va_P D vwCl [(tl, .inr (10, [.ref tls, .ref o0, .ref p0, .int x_tl_3, .int x_tl_4])), (o0, .inr (5, [.ref o0r, .int x_o0_1])), (o0r, .inl (ct 1, 60000, .inl g_o0r))] _ := hP
      have hD : va_D A [(tl, .inr (10, [.ref tls, .ref o0, .ref p0, .int x_tl_3, .int x_tl_4])), (o0, .inr (5, [.ref o0r, .int x_o0_1])), (o0r, .inl (ct 1, 60000, .inl g_o0r))] := hD
      have hk75_1 : FF (r72_1.toInt = oo.toInt) := FF.mk (by have h1 := FF.out hq2; have h2 := FF.out hp72_5; omega)
      refine go_v (k1 := 0) (n1 := 0) (wr := []) [0, 1, 2] [] (rn_V (As := [.int 5, .int r72_1]) (rest := []) (c_X10_putNumber_w l D ct tl (5 : Int32) r72_1 tls o0 p0 x_tl_3 x_tl_4 o0r x_o0_1 g_o0r h_x_tl_3 (rg_w h_x_tl_4 (by decide)) h_x_o0_1 _) (cb_of (n := 2) hn mw_1315 mw_10 mw_1312 mhX10_putNumber ⟨(Nat.le_of_ble_eq_true rfl), (Nat.le_of_ble_eq_true rfl)⟩) hx hb hml hown hn hK hSK hZ hS mw_1314 mw_s148 (ci := 10) (q0 := 0) rfl rfl rfl rfl hl.1 (Nat.le_of_ble_eq_true rfl) dX10_turnMemory_75 ⟨(Nat.le_of_ble_eq_true rfl), (Nat.le_of_ble_eq_true rfl)⟩) hP hD hS hA rfl rfl (by decide) (by decide) (by decide) (Nat.le_of_ble_eq_true rfl) (Nat.le_of_ble_eq_true rfl) (fun u75_3 H locs hp75_4 hP hD hS => ?_)
      obtain ⟨y_tl_475_5, k_o0r75_6⟩ := u75_3
      obtain ⟨hp75_7, hp75_8, hp75_9, hp75_10⟩ := hp75_4
      have hp75_7 : rg y_tl_475_5 1 1000001 := hp75_7
      replace hp75_8 : FF (x_tl_4.toInt + 1 ≤ y_tl_475_5.toInt ∧ y_tl_475_5.toInt ≤ x_tl_4.toInt + 2) := hp75_8
      replace hp75_9 : FF (-2048 ≤ r72_1.toInt ∧ r72_1.toInt ≤ 2047 → y_tl_475_5.toInt = x_tl_4.toInt + 1) := hp75_9
      replace hp75_10 : FF (r72_1.toInt < -2048 ∨ 2047 < r72_1.toInt → y_tl_475_5.toInt = x_tl_4.toInt + 2) := hp75_10
      have hP : va_P D vwCl [(tl, .inr (10, [.ref tls, .ref o0, .ref p0, .int x_tl_3, .int y_tl_475_5])), (o0, .inr (5, [.ref o0r, .int x_o0_1])), (o0r, .inl (ct 1, 60000, .inl k_o0r75_6))] _ := hP
      have hD : va_D A [(tl, .inr (10, [.ref tls, .ref o0, .ref p0, .int x_tl_3, .int y_tl_475_5])), (o0, .inr (5, [.ref o0r, .int x_o0_1])), (o0r, .inl (ct 1, 60000, .inl k_o0r75_6))] := hD
      refine lv_aload_n hx hb dX10_turnMemory_78 rfl (lv_at hl 1 rfl) ?_
      refine lv_bipush (v := 51) hx hb dX10_turnMemory_79 (by decide) ?_
      refine lv_iconst (v := 0) hx hb dX10_turnMemory_81 (by decide) ?_
      refine lv_iconst (v := 0) hx hb dX10_turnMemory_82 (by decide) ?_
      refine lv_iconst (v := 5) hx hb dX10_turnMemory_83 (by decide) ?_
      refine lv_iconst (v := 5) hx hb dX10_turnMemory_84 (by decide) ?_
      refine lv_iload hx hb dX10_turnMemory_85 (lv_at hl 6 rfl) ?_
      refine go_i (k1 := 0) (n1 := 0) (wr := [(tl, .inr (10, [.ref tls, .ref o0, .ref p0, .int x_tl_3, .int y_tl_475_5])), (o0, .inr (5, [.ref o0r, .int x_o0_1])), (o0r, .inl (ct 1, 60000, .inl k_o0r75_6))]) [] [0, 1, 2] (rn_S (As := [.int j33_s0]) (rest := [.int 5, .int 5, .int 0, .int 0, .int 51, .ref tl]) (c_X10_placeOf l D ct j33_s0  _) (cb_of (n := 1) hn mw_1308 mw_10 mw_1306 mhX10_placeOf ⟨(Nat.le_of_ble_eq_true rfl), (Nat.le_of_ble_eq_true rfl)⟩) hx hb hml hown hn hK hSK hZ hS mw_1307 rfl hl.1 (Nat.le_of_ble_eq_true rfl) dX10_turnMemory_87 ⟨(Nat.le_of_ble_eq_true rfl), (Nat.le_of_ble_eq_true rfl)⟩) hP hD hS hA rfl rfl (by decide) (by decide) (by decide) (Nat.le_of_ble_eq_true rfl) (Nat.le_of_ble_eq_true rfl) (fun r87_1 u87_2 H locs hp87_3 hP hD hS => ?_)
      have hP : va_P D vwCl [(tl, .inr (10, [.ref tls, .ref o0, .ref p0, .int x_tl_3, .int y_tl_475_5])), (o0, .inr (5, [.ref o0r, .int x_o0_1])), (o0r, .inl (ct 1, 60000, .inl k_o0r75_6))] _ := hP
      have hD : va_D A [(tl, .inr (10, [.ref tls, .ref o0, .ref p0, .int x_tl_3, .int y_tl_475_5])), (o0, .inr (5, [.ref o0r, .int x_o0_1])), (o0r, .inl (ct 1, 60000, .inl k_o0r75_6))] := hD
      refine go_v (k1 := 0) (n1 := 0) (wr := []) [0, 1, 2] [] (rn_V (As := [.int 51, .int 0, .int 0, .int 5, .int 5, .int r87_1]) (rest := []) (c_X10_putOp l D ct tl (51 : Int32) (0 : Int32) (0 : Int32) (5 : Int32) (5 : Int32) r87_1 tls o0 p0 x_tl_3 y_tl_475_5 o0r x_o0_1 k_o0r75_6 h_x_tl_3 (rg_of (show 0 ≤ y_tl_475_5.toInt ∧ y_tl_475_5.toInt ≤ 999990 by have q0 := h_x_tl_4.1; have q1 := h_x_tl_4.2; have q2 := FF.out hp75_8; omega)) h_x_o0_1 _) (cb_of (n := 6) hn mw_1329 mw_10 mw_1326 mhX10_putOp ⟨(Nat.le_of_ble_eq_true rfl), (Nat.le_of_ble_eq_true rfl)⟩) hx hb hml hown hn hK hSK hZ hS mw_1328 mw_s151 (ci := 10) (q0 := 0) rfl rfl rfl rfl hl.1 (Nat.le_of_ble_eq_true rfl) dX10_turnMemory_90 ⟨(Nat.le_of_ble_eq_true rfl), (Nat.le_of_ble_eq_true rfl)⟩) hP hD hS hA rfl rfl (by decide) (by decide) (by decide) (Nat.le_of_ble_eq_true rfl) (Nat.le_of_ble_eq_true rfl) (fun u90_2 H locs hp90_3 hP hD hS => ?_)
      obtain ⟨y_tl_490_4, k_o0r90_5⟩ := u90_2
      obtain ⟨hp90_6, hp90_7⟩ := hp90_3
      have hp90_6 : rg y_tl_490_4 1 1000001 := hp90_6
      replace hp90_7 : FF (y_tl_490_4.toInt = y_tl_475_5.toInt + 1) := hp90_7
      have hP : va_P D vwCl [(tl, .inr (10, [.ref tls, .ref o0, .ref p0, .int x_tl_3, .int y_tl_490_4])), (o0, .inr (5, [.ref o0r, .int x_o0_1])), (o0r, .inl (ct 1, 60000, .inl k_o0r90_5))] _ := hP
      have hD : va_D A [(tl, .inr (10, [.ref tls, .ref o0, .ref p0, .int x_tl_3, .int y_tl_490_4])), (o0, .inr (5, [.ref o0r, .int x_o0_1])), (o0r, .inl (ct 1, 60000, .inl k_o0r90_5))] := hD
      refine lv_iload hx hb dX10_turnMemory_93 (lv_at hl 4 rfl) ?_
      refine lv_if_eq (tgt := 130) hx hb dX10_turnMemory_95 (by decide) (fun c95_1 => ?_) (fun c95_1 => ?_)
      · have t95_2 := FF.mk (i_eq c95_1)
        have r95_3 : rg r6_1 0 0 := rg_eqA t95_2 hp6_4 (show rg (0 : Int32) 0 0 from rg_l (by decide)) (by decide)
        refine lv_iload_n hx hb dX10_turnMemory_130 rfl (lv_at hl 3 rfl) ?_
        refine lv_iconst (v := 1) hx hb dX10_turnMemory_131 (by decide) ?_
        refine lv_iand hx hb dX10_turnMemory_132 ?_
        refine lv_topi (fun z132_1 ez132_1 => ?_)
        have r132_2 : rg z132_1 0 1 := rg_andr ez132_1 (show rg (1 : Int32) 1 1 from rg_l (by decide)) (by decide)
        refine lv_if_eq (tgt := 153) hx hb dX10_turnMemory_133 (by decide) (fun c133_1 => ?_) (fun c133_1 => ?_)
        · have t133_2 := FF.mk (i_eq c133_1)
          have r133_3 : rg z132_1 0 0 := rg_eqA t133_2 r132_2 (show rg (0 : Int32) 0 0 from rg_l (by decide)) (by decide)
          refine lv_aload_n hx hb dX10_turnMemory_153 rfl (lv_at hl 1 rfl) ?_
          refine lv_bipush (v := 6) hx hb dX10_turnMemory_154 (by decide) ?_
          refine lv_lload_n hx hb dX10_turnMemory_156 rfl (lv_at hl 2 rfl) ?_
          refine go_i (k1 := 0) (n1 := 0) (wr := [(tl, .inr (10, [.ref tls, .ref o0, .ref p0, .int x_tl_3, .int y_tl_490_4])), (o0, .inr (5, [.ref o0r, .int x_o0_1])), (o0r, .inl (ct 1, 60000, .inl k_o0r90_5))]) [] [0, 1, 2] (rn_SN (As := [.long v0]) (rest := [.int 6, .ref tl]) (c_X7_kOf_w l D ct v0  _) (cn_of (n := 1) hn mw_995 mw_7 mw_1311 mhX7_kOf ⟨(Nat.le_of_ble_eq_true rfl), (Nat.le_of_ble_eq_true rfl)⟩) hx hb hml hown hn hK hSK hZ hS mw_994 rfl hl.1 (Nat.le_of_ble_eq_true rfl) dX10_turnMemory_157 ⟨(Nat.le_of_ble_eq_true rfl), (Nat.le_of_ble_eq_true rfl)⟩) hP hD hS hA rfl rfl (by decide) (by decide) (by decide) (Nat.le_of_ble_eq_true rfl) (Nat.le_of_ble_eq_true rfl) (fun r157_1 u157_2 H locs hp157_3 hP hD hS => ?_)
          have hp157_4 := hp157_3
          replace hp157_4 : FF (r157_1.toInt = v0.toInt / 4294967296) := hp157_4
          have hP : va_P D vwCl [(tl, .inr (10, [.ref tls, .ref o0, .ref p0, .int x_tl_3, .int y_tl_490_4])), (o0, .inr (5, [.ref o0r, .int x_o0_1])), (o0r, .inl (ct 1, 60000, .inl k_o0r90_5))] _ := hP
          have hD : va_D A [(tl, .inr (10, [.ref tls, .ref o0, .ref p0, .int x_tl_3, .int y_tl_490_4])), (o0, .inr (5, [.ref o0r, .int x_o0_1])), (o0r, .inl (ct 1, 60000, .inl k_o0r90_5))] := hD
          have hk160_1 : FF (r157_1.toInt = kk.toInt) := FF.mk (by have h1 := FF.out hq1; have h2 := FF.out hp157_4; omega)
          refine go_v (k1 := 0) (n1 := 0) (wr := []) [0, 1, 2] [] (rn_V (As := [.int 6, .int r157_1]) (rest := []) (c_X10_putNumber_w l D ct tl (6 : Int32) r157_1 tls o0 p0 x_tl_3 y_tl_490_4 o0r x_o0_1 k_o0r90_5 h_x_tl_3 (rg_of (show 0 ≤ y_tl_490_4.toInt ∧ y_tl_490_4.toInt ≤ 999950 by have q0 := h_x_tl_4.1; have q1 := h_x_tl_4.2; have q2 := FF.out hp75_8; have q3 := FF.out hp90_7; omega)) h_x_o0_1 _) (cb_of (n := 2) hn mw_1315 mw_10 mw_1312 mhX10_putNumber ⟨(Nat.le_of_ble_eq_true rfl), (Nat.le_of_ble_eq_true rfl)⟩) hx hb hml hown hn hK hSK hZ hS mw_1314 mw_s148 (ci := 10) (q0 := 0) rfl rfl rfl rfl hl.1 (Nat.le_of_ble_eq_true rfl) dX10_turnMemory_160 ⟨(Nat.le_of_ble_eq_true rfl), (Nat.le_of_ble_eq_true rfl)⟩) hP hD hS hA rfl rfl (by decide) (by decide) (by decide) (Nat.le_of_ble_eq_true rfl) (Nat.le_of_ble_eq_true rfl) (fun u160_3 H locs hp160_4 hP hD hS => ?_)
          obtain ⟨y_tl_4160_5, k_o0r160_6⟩ := u160_3
          obtain ⟨hp160_7, hp160_8, hp160_9, hp160_10⟩ := hp160_4
          have hp160_7 : rg y_tl_4160_5 1 1000001 := hp160_7
          replace hp160_8 : FF (y_tl_490_4.toInt + 1 ≤ y_tl_4160_5.toInt ∧ y_tl_4160_5.toInt ≤ y_tl_490_4.toInt + 2) := hp160_8
          replace hp160_9 : FF (-2048 ≤ r157_1.toInt ∧ r157_1.toInt ≤ 2047 → y_tl_4160_5.toInt = y_tl_490_4.toInt + 1) := hp160_9
          replace hp160_10 : FF (r157_1.toInt < -2048 ∨ 2047 < r157_1.toInt → y_tl_4160_5.toInt = y_tl_490_4.toInt + 2) := hp160_10
          have hP : va_P D vwCl [(tl, .inr (10, [.ref tls, .ref o0, .ref p0, .int x_tl_3, .int y_tl_4160_5])), (o0, .inr (5, [.ref o0r, .int x_o0_1])), (o0r, .inl (ct 1, 60000, .inl k_o0r160_6))] _ := hP
          have hD : va_D A [(tl, .inr (10, [.ref tls, .ref o0, .ref p0, .int x_tl_3, .int y_tl_4160_5])), (o0, .inr (5, [.ref o0r, .int x_o0_1])), (o0r, .inl (ct 1, 60000, .inl k_o0r160_6))] := hD
          refine lv_aload_n hx hb dX10_turnMemory_163 rfl (lv_at hl 1 rfl) ?_
          refine lv_iload hx hb dX10_turnMemory_164 (lv_at hl 0 rfl) ?_
          refine lv_iconst (v := 5) hx hb dX10_turnMemory_166 (by decide) ?_
          refine lv_bipush (v := 6) hx hb dX10_turnMemory_167 (by decide) ?_
          refine go_v (k1 := 0) (n1 := 0) (wr := []) [0, 1, 2] [] (rn_V (As := [.int j67_s0, .int 5, .int 6]) (rest := []) (c_X10_putStore l D ct tl j67_s0 (5 : Int32) (6 : Int32) tls o0 p0 x_tl_3 y_tl_4160_5 o0r x_o0_1 k_o0r160_6 h_x_tl_3 (rg_of (show 0 ≤ y_tl_4160_5.toInt ∧ y_tl_4160_5.toInt ≤ 999990 by have q0 := h_x_tl_4.1; have q1 := h_x_tl_4.2; have q2 := FF.out hp75_8; have q3 := FF.out hp90_7; have q4 := FF.out hp160_8; omega)) h_x_o0_1 _) (cb_of (n := 3) hn mw_1383 mw_10 mw_1380 mhX10_putStore ⟨(Nat.le_of_ble_eq_true rfl), (Nat.le_of_ble_eq_true rfl)⟩) hx hb hml hown hn hK hSK hZ hS mw_1382 mw_s162 (ci := 10) (q0 := 0) rfl rfl rfl rfl hl.1 (Nat.le_of_ble_eq_true rfl) dX10_turnMemory_169 ⟨(Nat.le_of_ble_eq_true rfl), (Nat.le_of_ble_eq_true rfl)⟩) hP hD hS hA rfl rfl (by decide) (by decide) (by decide) (Nat.le_of_ble_eq_true rfl) (Nat.le_of_ble_eq_true rfl) (fun u169_2 H locs hp169_3 hP hD hS => ?_)
          obtain ⟨y_tl_4169_4, k_o0r169_5⟩ := u169_2
          obtain ⟨hp169_6, hp169_7⟩ := hp169_3
          have hp169_6 : rg y_tl_4169_4 1 1000001 := hp169_6
          replace hp169_7 : FF (y_tl_4169_4.toInt = y_tl_4160_5.toInt + 1) := hp169_7
          have hP : va_P D vwCl [(tl, .inr (10, [.ref tls, .ref o0, .ref p0, .int x_tl_3, .int y_tl_4169_4])), (o0, .inr (5, [.ref o0r, .int x_o0_1])), (o0r, .inl (ct 1, 60000, .inl k_o0r169_5))] _ := hP
          have hD : va_D A [(tl, .inr (10, [.ref tls, .ref o0, .ref p0, .int x_tl_3, .int y_tl_4169_4])), (o0, .inr (5, [.ref o0r, .int x_o0_1])), (o0r, .inl (ct 1, 60000, .inl k_o0r169_5))] := hD
          have hk172_1 : FF (y_tl_4169_4.toInt = x_tl_4.toInt + ((d : Nat) : Int)) := FF.mk (Or.elim (show (-2048 ≤ oo.toInt ∧ oo.toInt ≤ 2047) ∨ (oo.toInt < -2048 ∨ 2047 < oo.toInt) by omega) (fun s0a => (Or.elim (show (-2048 ≤ kk.toInt ∧ kk.toInt ≤ 2047) ∨ (kk.toInt < -2048 ∨ 2047 < kk.toInt) by omega) (fun s1a => (have e9 : ((d : Nat) : Int) = 4 := FF.out tw0_1_1 ⟨s0a, s1a, (show ¬ (cc.toInt = 97 ∨ cc.toInt = 105 ∨ cc.toInt = 113 ∨ cc.toInt = 121) by have q0 := FF.out hk4_1; have q1 := FF.out hp6_6; have q2 := FF.out t95_2; have q3 := (show (0 : Int32).toInt = 0 from by decide); omega), (show cc.toInt % 2 = 0 by have q0 := (eq_and (c := 2) (k := 1) ez132_1 (by decide) (by decide)); have q1 := FF.out hk4_1; have q2 := FF.out t133_2; have q3 := (show (0 : Int32).toInt = 0 from by decide); omega)⟩; (show y_tl_4169_4.toInt = x_tl_4.toInt + ((d : Nat) : Int) by have q0 := FF.out hk75_1; have q1 := FF.out hp75_8; have q2 := FF.out hp75_9; have q3 := FF.out hp90_7; have q4 := FF.out hk160_1; have q5 := FF.out hp160_8; have q6 := FF.out hp160_9; have q7 := FF.out hp169_7; have q8 := s0a; have q9 := s1a; have q10 := e9; omega))) (fun s1b => (have e9 : ((d : Nat) : Int) = 5 := FF.out tw0_1_2 ⟨s0a, s1b, (show ¬ (cc.toInt = 97 ∨ cc.toInt = 105 ∨ cc.toInt = 113 ∨ cc.toInt = 121) by have q0 := FF.out hk4_1; have q1 := FF.out hp6_6; have q2 := FF.out t95_2; have q3 := (show (0 : Int32).toInt = 0 from by decide); omega), (show cc.toInt % 2 = 0 by have q0 := (eq_and (c := 2) (k := 1) ez132_1 (by decide) (by decide)); have q1 := FF.out hk4_1; have q2 := FF.out t133_2; have q3 := (show (0 : Int32).toInt = 0 from by decide); omega)⟩; (show y_tl_4169_4.toInt = x_tl_4.toInt + ((d : Nat) : Int) by have q0 := FF.out hk75_1; have q1 := FF.out hp75_8; have q2 := FF.out hp75_9; have q3 := FF.out hp90_7; have q4 := FF.out hk160_1; have q5 := FF.out hp160_10; have q6 := FF.out hp169_7; have q7 := s0a; have q8 := s1b; have q9 := e9; omega))))) (fun s0b => (Or.elim (show (-2048 ≤ kk.toInt ∧ kk.toInt ≤ 2047) ∨ (kk.toInt < -2048 ∨ 2047 < kk.toInt) by omega) (fun s1a => (have e9 : ((d : Nat) : Int) = 5 := FF.out tw0_1_4 ⟨s0b, s1a, (show ¬ (cc.toInt = 97 ∨ cc.toInt = 105 ∨ cc.toInt = 113 ∨ cc.toInt = 121) by have q0 := FF.out hk4_1; have q1 := FF.out hp6_6; have q2 := FF.out t95_2; have q3 := (show (0 : Int32).toInt = 0 from by decide); omega), (show cc.toInt % 2 = 0 by have q0 := (eq_and (c := 2) (k := 1) ez132_1 (by decide) (by decide)); have q1 := FF.out hk4_1; have q2 := FF.out t133_2; have q3 := (show (0 : Int32).toInt = 0 from by decide); omega)⟩; (show y_tl_4169_4.toInt = x_tl_4.toInt + ((d : Nat) : Int) by have q0 := FF.out hk75_1; have q1 := FF.out hp75_10; have q2 := FF.out hp90_7; have q3 := FF.out hk160_1; have q4 := FF.out hp160_8; have q5 := FF.out hp160_9; have q6 := FF.out hp169_7; have q7 := s0b; have q8 := s1a; have q9 := e9; omega))) (fun s1b => (have e9 : ((d : Nat) : Int) = 6 := FF.out tw0_1_5 ⟨s0b, s1b, (show ¬ (cc.toInt = 97 ∨ cc.toInt = 105 ∨ cc.toInt = 113 ∨ cc.toInt = 121) by have q0 := FF.out hk4_1; have q1 := FF.out hp6_6; have q2 := FF.out t95_2; have q3 := (show (0 : Int32).toInt = 0 from by decide); omega), (show cc.toInt % 2 = 0 by have q0 := (eq_and (c := 2) (k := 1) ez132_1 (by decide) (by decide)); have q1 := FF.out hk4_1; have q2 := FF.out t133_2; have q3 := (show (0 : Int32).toInt = 0 from by decide); omega)⟩; (show y_tl_4169_4.toInt = x_tl_4.toInt + ((d : Nat) : Int) by have q0 := FF.out hk75_1; have q1 := FF.out hp75_8; have q2 := FF.out hp75_10; have q3 := FF.out hp90_7; have q4 := FF.out hk160_1; have q5 := FF.out hp160_8; have q6 := FF.out hp160_10; have q7 := FF.out hp169_7; have q8 := s0b; have q9 := s1b; have q10 := e9; omega))))))
          exact endq_v hQ hx hb hr hlocks dX10_turnMemory_172 (y_tl_4169_4, k_o0r169_5) ⟨hp169_6, (show x_tl_4.toInt + 3 ≤ y_tl_4169_4.toInt ∧ y_tl_4169_4.toInt ≤ x_tl_4.toInt + 6 by have q0 := FF.out hp75_8; have q1 := FF.out hp90_7; have q2 := FF.out hp160_8; have q3 := FF.out hp169_7; omega), (FF.out hk172_1)⟩ hP hD hS [0, 1, 2] rfl (by decide) rfl (Nat.le_of_ble_eq_true rfl) (Nat.le_of_ble_eq_true rfl)
        · have t133_2 := FF.mk (i_ne c133_1)
          have r133_3 : rg z132_1 1 1 := rg_neAl t133_2 r132_2 (show rg (0 : Int32) 0 0 from rg_l (by decide)) (by decide)
          refine lv_aload_n hx hb dX10_turnMemory_136 rfl (lv_at hl 1 rfl) ?_
          refine lv_iload hx hb dX10_turnMemory_137 (lv_at hl 0 rfl) ?_
          refine lv_iconst (v := 5) hx hb dX10_turnMemory_139 (by decide) ?_
          refine lv_lload_n hx hb dX10_turnMemory_140 rfl (lv_at hl 2 rfl) ?_
          refine go_i (k1 := 0) (n1 := 0) (wr := [(tl, .inr (10, [.ref tls, .ref o0, .ref p0, .int x_tl_3, .int y_tl_490_4])), (o0, .inr (5, [.ref o0r, .int x_o0_1])), (o0r, .inl (ct 1, 60000, .inl k_o0r90_5))]) [] [0, 1, 2] (rn_SN (As := [.long v0]) (rest := [.int 5, .int j67_s0, .ref tl]) (c_X7_sOf l D ct v0  _) (cn_of (n := 1) hn mw_989 mw_7 mw_1321 mhX7_sOf ⟨(Nat.le_of_ble_eq_true rfl), (Nat.le_of_ble_eq_true rfl)⟩) hx hb hml hown hn hK hSK hZ hS mw_988 rfl hl.1 (Nat.le_of_ble_eq_true rfl) dX10_turnMemory_141 ⟨(Nat.le_of_ble_eq_true rfl), (Nat.le_of_ble_eq_true rfl)⟩) hP hD hS hA rfl rfl (by decide) (by decide) (by decide) (Nat.le_of_ble_eq_true rfl) (Nat.le_of_ble_eq_true rfl) (fun r141_1 u141_2 H locs hp141_3 hP hD hS => ?_)
          obtain ⟨hp141_4, hp141_5⟩ := hp141_3
          have hp141_4 : rg r141_1 0 15 := hp141_4
          replace hp141_5 : FF (r141_1.toInt = (v0.toInt / 4096) % 16) := hp141_5
          have hP : va_P D vwCl [(tl, .inr (10, [.ref tls, .ref o0, .ref p0, .int x_tl_3, .int y_tl_490_4])), (o0, .inr (5, [.ref o0r, .int x_o0_1])), (o0r, .inl (ct 1, 60000, .inl k_o0r90_5))] _ := hP
          have hD : va_D A [(tl, .inr (10, [.ref tls, .ref o0, .ref p0, .int x_tl_3, .int y_tl_490_4])), (o0, .inr (5, [.ref o0r, .int x_o0_1])), (o0r, .inl (ct 1, 60000, .inl k_o0r90_5))] := hD
          refine go_i (k1 := 0) (n1 := 0) (wr := [(tl, .inr (10, [.ref tls, .ref o0, .ref p0, .int x_tl_3, .int y_tl_490_4])), (o0, .inr (5, [.ref o0r, .int x_o0_1])), (o0r, .inl (ct 1, 60000, .inl k_o0r90_5))]) [] [0, 1, 2] (rn_S (As := [.int r141_1]) (rest := [.int 5, .int j67_s0, .ref tl]) (c_X10_placeOf l D ct r141_1  _) (cb_of (n := 1) hn mw_1308 mw_10 mw_1306 mhX10_placeOf ⟨(Nat.le_of_ble_eq_true rfl), (Nat.le_of_ble_eq_true rfl)⟩) hx hb hml hown hn hK hSK hZ hS mw_1307 rfl hl.1 (Nat.le_of_ble_eq_true rfl) dX10_turnMemory_144 ⟨(Nat.le_of_ble_eq_true rfl), (Nat.le_of_ble_eq_true rfl)⟩) hP hD hS hA rfl rfl (by decide) (by decide) (by decide) (Nat.le_of_ble_eq_true rfl) (Nat.le_of_ble_eq_true rfl) (fun r144_1 u144_2 H locs hp144_3 hP hD hS => ?_)
          have hP : va_P D vwCl [(tl, .inr (10, [.ref tls, .ref o0, .ref p0, .int x_tl_3, .int y_tl_490_4])), (o0, .inr (5, [.ref o0r, .int x_o0_1])), (o0r, .inl (ct 1, 60000, .inl k_o0r90_5))] _ := hP
          have hD : va_D A [(tl, .inr (10, [.ref tls, .ref o0, .ref p0, .int x_tl_3, .int y_tl_490_4])), (o0, .inr (5, [.ref o0r, .int x_o0_1])), (o0r, .inl (ct 1, 60000, .inl k_o0r90_5))] := hD
          refine go_v (k1 := 0) (n1 := 0) (wr := []) [0, 1, 2] [] (rn_V (As := [.int j67_s0, .int 5, .int r144_1]) (rest := []) (c_X10_putStore l D ct tl j67_s0 (5 : Int32) r144_1 tls o0 p0 x_tl_3 y_tl_490_4 o0r x_o0_1 k_o0r90_5 h_x_tl_3 (rg_of (show 0 ≤ y_tl_490_4.toInt ∧ y_tl_490_4.toInt ≤ 999990 by have q0 := h_x_tl_4.1; have q1 := h_x_tl_4.2; have q2 := FF.out hp75_8; have q3 := FF.out hp90_7; omega)) h_x_o0_1 _) (cb_of (n := 3) hn mw_1383 mw_10 mw_1380 mhX10_putStore ⟨(Nat.le_of_ble_eq_true rfl), (Nat.le_of_ble_eq_true rfl)⟩) hx hb hml hown hn hK hSK hZ hS mw_1382 mw_s162 (ci := 10) (q0 := 0) rfl rfl rfl rfl hl.1 (Nat.le_of_ble_eq_true rfl) dX10_turnMemory_147 ⟨(Nat.le_of_ble_eq_true rfl), (Nat.le_of_ble_eq_true rfl)⟩) hP hD hS hA rfl rfl (by decide) (by decide) (by decide) (Nat.le_of_ble_eq_true rfl) (Nat.le_of_ble_eq_true rfl) (fun u147_2 H locs hp147_3 hP hD hS => ?_)
          obtain ⟨y_tl_4147_4, k_o0r147_5⟩ := u147_2
          obtain ⟨hp147_6, hp147_7⟩ := hp147_3
          have hp147_6 : rg y_tl_4147_4 1 1000001 := hp147_6
          replace hp147_7 : FF (y_tl_4147_4.toInt = y_tl_490_4.toInt + 1) := hp147_7
          have hP : va_P D vwCl [(tl, .inr (10, [.ref tls, .ref o0, .ref p0, .int x_tl_3, .int y_tl_4147_4])), (o0, .inr (5, [.ref o0r, .int x_o0_1])), (o0r, .inl (ct 1, 60000, .inl k_o0r147_5))] _ := hP
          have hD : va_D A [(tl, .inr (10, [.ref tls, .ref o0, .ref p0, .int x_tl_3, .int y_tl_4147_4])), (o0, .inr (5, [.ref o0r, .int x_o0_1])), (o0r, .inl (ct 1, 60000, .inl k_o0r147_5))] := hD
          refine lv_goto (tgt := 172) hx hb dX10_turnMemory_150 (by decide) ?_
          have hk172_1 : FF (y_tl_4147_4.toInt = x_tl_4.toInt + ((d : Nat) : Int)) := FF.mk (Or.elim (show (-2048 ≤ oo.toInt ∧ oo.toInt ≤ 2047) ∨ (oo.toInt < -2048 ∨ 2047 < oo.toInt) by omega) (fun s0a => (Or.elim (show (-2048 ≤ kk.toInt ∧ kk.toInt ≤ 2047) ∨ (kk.toInt < -2048 ∨ 2047 < kk.toInt) by omega) (fun s1a => (have e9 : ((d : Nat) : Int) = 3 := FF.out tw0_1_0 ⟨s0a, (show ((cc.toInt = 97 ∨ cc.toInt = 105 ∨ cc.toInt = 113 ∨ cc.toInt = 121) ∨ cc.toInt % 2 = 1) by have q0 := r133_3.1; have q1 := (eq_and (c := 2) (k := 1) ez132_1 (by decide) (by decide)); have q2 := FF.out hk4_1; omega)⟩; (show y_tl_4147_4.toInt = x_tl_4.toInt + ((d : Nat) : Int) by have q0 := FF.out hk75_1; have q1 := FF.out hp75_8; have q2 := FF.out hp75_9; have q3 := FF.out hp90_7; have q4 := FF.out hp147_7; have q5 := s0a; have q6 := e9; omega))) (fun s1b => (have e9 : ((d : Nat) : Int) = 3 := FF.out tw0_1_0 ⟨s0a, (show ((cc.toInt = 97 ∨ cc.toInt = 105 ∨ cc.toInt = 113 ∨ cc.toInt = 121) ∨ cc.toInt % 2 = 1) by have q0 := r133_3.1; have q1 := (eq_and (c := 2) (k := 1) ez132_1 (by decide) (by decide)); have q2 := FF.out hk4_1; omega)⟩; (show y_tl_4147_4.toInt = x_tl_4.toInt + ((d : Nat) : Int) by have q0 := FF.out hk75_1; have q1 := FF.out hp75_8; have q2 := FF.out hp75_9; have q3 := FF.out hp90_7; have q4 := FF.out hp147_7; have q5 := s0a; have q6 := e9; omega))))) (fun s0b => (Or.elim (show (-2048 ≤ kk.toInt ∧ kk.toInt ≤ 2047) ∨ (kk.toInt < -2048 ∨ 2047 < kk.toInt) by omega) (fun s1a => (have e9 : ((d : Nat) : Int) = 4 := FF.out tw0_1_3 ⟨s0b, (show ((cc.toInt = 97 ∨ cc.toInt = 105 ∨ cc.toInt = 113 ∨ cc.toInt = 121) ∨ cc.toInt % 2 = 1) by have q0 := r133_3.1; have q1 := (eq_and (c := 2) (k := 1) ez132_1 (by decide) (by decide)); have q2 := FF.out hk4_1; omega)⟩; (show y_tl_4147_4.toInt = x_tl_4.toInt + ((d : Nat) : Int) by have q0 := FF.out hk75_1; have q1 := FF.out hp75_8; have q2 := FF.out hp75_10; have q3 := FF.out hp90_7; have q4 := FF.out hp147_7; have q5 := s0b; have q6 := e9; omega))) (fun s1b => (have e9 : ((d : Nat) : Int) = 4 := FF.out tw0_1_3 ⟨s0b, (show ((cc.toInt = 97 ∨ cc.toInt = 105 ∨ cc.toInt = 113 ∨ cc.toInt = 121) ∨ cc.toInt % 2 = 1) by have q0 := r133_3.1; have q1 := (eq_and (c := 2) (k := 1) ez132_1 (by decide) (by decide)); have q2 := FF.out hk4_1; omega)⟩; (show y_tl_4147_4.toInt = x_tl_4.toInt + ((d : Nat) : Int) by have q0 := FF.out hk75_1; have q1 := FF.out hp75_8; have q2 := FF.out hp75_10; have q3 := FF.out hp90_7; have q4 := FF.out hp147_7; have q5 := s0b; have q6 := e9; omega))))))
          exact endq_v hQ hx hb hr hlocks dX10_turnMemory_172 (y_tl_4147_4, k_o0r147_5) ⟨hp147_6, (show x_tl_4.toInt + 3 ≤ y_tl_4147_4.toInt ∧ y_tl_4147_4.toInt ≤ x_tl_4.toInt + 6 by have q0 := FF.out hp75_8; have q1 := FF.out hp90_7; have q2 := FF.out hp147_7; omega), (FF.out hk172_1)⟩ hP hD hS [0, 1, 2] rfl (by decide) rfl (Nat.le_of_ble_eq_true rfl) (Nat.le_of_ble_eq_true rfl)
      · have t95_2 := FF.mk (i_ne c95_1)
        have r95_3 : rg r6_1 1 1 := rg_neAl t95_2 hp6_4 (show rg (0 : Int32) 0 0 from rg_l (by decide)) (by decide)
        refine lv_aload_n hx hb dX10_turnMemory_98 rfl (lv_at hl 1 rfl) ?_
        refine lv_iconst (v := 3) hx hb dX10_turnMemory_99 (by decide) ?_
        refine lv_iload hx hb dX10_turnMemory_100 (lv_at hl 5 rfl) ?_
        refine lv_bipush (v := 8) hx hb dX10_turnMemory_102 (by decide) ?_
        have b115 : ∀ (j115_s0 : Int32) (H : Heap) (locs : List Loc) (ls : Array Slot), (rg j115_s0 3 7) → lv_has ls 8 [(1, .long v0)] → va_P D vwCl [(tl, .inr (10, [.ref tls, .ref o0, .ref p0, .int x_tl_3, .int y_tl_490_4])), (o0, .inr (5, [.ref o0r, .int x_o0_1])), (o0r, .inl (ct 1, 60000, .inl k_o0r90_5))] H → va_D A [(tl, .inr (10, [.ref tls, .ref o0, .ref p0, .int x_tl_3, .int y_tl_490_4])), (o0, .inr (5, [.ref o0r, .int x_o0_1])), (o0r, .inl (ct 1, 60000, .inl k_o0r90_5))] → va_S A s.heap H locs → W p l e ({ frames := 3, cells := 0, slots := 0, locals := 67 }) s m [.ref tl, .long v0].toArray below meth c H locs 0 0 Q (F0 m 115 ls [.int j115_s0, .int 3, .ref tl]) := by
          intro j115_s0 H locs ls r115_1001 hl hP hD hS
          refine lv_lload_n hx hb dX10_turnMemory_115 rfl (lv_at hl 0 rfl) ?_
          refine go_i (k1 := 0) (n1 := 0) (wr := [(tl, .inr (10, [.ref tls, .ref o0, .ref p0, .int x_tl_3, .int y_tl_490_4])), (o0, .inr (5, [.ref o0r, .int x_o0_1])), (o0r, .inl (ct 1, 60000, .inl k_o0r90_5))]) [] [0, 1, 2] (rn_SN (As := [.long v0]) (rest := [.int j115_s0, .int 3, .ref tl]) (c_X7_dOf l D ct v0  _) (cn_of (n := 1) hn mw_986 mw_7 mw_1305 mhX7_dOf ⟨(Nat.le_of_ble_eq_true rfl), (Nat.le_of_ble_eq_true rfl)⟩) hx hb hml hown hn hK hSK hZ hS mw_985 rfl hl.1 (Nat.le_of_ble_eq_true rfl) dX10_turnMemory_116 ⟨(Nat.le_of_ble_eq_true rfl), (Nat.le_of_ble_eq_true rfl)⟩) hP hD hS hA rfl rfl (by decide) (by decide) (by decide) (Nat.le_of_ble_eq_true rfl) (Nat.le_of_ble_eq_true rfl) (fun r116_1 u116_2 H locs hp116_3 hP hD hS => ?_)
          obtain ⟨hp116_4, hp116_5⟩ := hp116_3
          have hp116_4 : rg r116_1 0 15 := hp116_4
          replace hp116_5 : FF (r116_1.toInt = (v0.toInt / 256) % 16) := hp116_5
          have hP : va_P D vwCl [(tl, .inr (10, [.ref tls, .ref o0, .ref p0, .int x_tl_3, .int y_tl_490_4])), (o0, .inr (5, [.ref o0r, .int x_o0_1])), (o0r, .inl (ct 1, 60000, .inl k_o0r90_5))] _ := hP
          have hD : va_D A [(tl, .inr (10, [.ref tls, .ref o0, .ref p0, .int x_tl_3, .int y_tl_490_4])), (o0, .inr (5, [.ref o0r, .int x_o0_1])), (o0r, .inl (ct 1, 60000, .inl k_o0r90_5))] := hD
          refine go_i (k1 := 0) (n1 := 0) (wr := [(tl, .inr (10, [.ref tls, .ref o0, .ref p0, .int x_tl_3, .int y_tl_490_4])), (o0, .inr (5, [.ref o0r, .int x_o0_1])), (o0r, .inl (ct 1, 60000, .inl k_o0r90_5))]) [] [0, 1, 2] (rn_S (As := [.int r116_1]) (rest := [.int j115_s0, .int 3, .ref tl]) (c_X10_placeOf l D ct r116_1  _) (cb_of (n := 1) hn mw_1308 mw_10 mw_1306 mhX10_placeOf ⟨(Nat.le_of_ble_eq_true rfl), (Nat.le_of_ble_eq_true rfl)⟩) hx hb hml hown hn hK hSK hZ hS mw_1307 rfl hl.1 (Nat.le_of_ble_eq_true rfl) dX10_turnMemory_119 ⟨(Nat.le_of_ble_eq_true rfl), (Nat.le_of_ble_eq_true rfl)⟩) hP hD hS hA rfl rfl (by decide) (by decide) (by decide) (Nat.le_of_ble_eq_true rfl) (Nat.le_of_ble_eq_true rfl) (fun r119_1 u119_2 H locs hp119_3 hP hD hS => ?_)
          have hP : va_P D vwCl [(tl, .inr (10, [.ref tls, .ref o0, .ref p0, .int x_tl_3, .int y_tl_490_4])), (o0, .inr (5, [.ref o0r, .int x_o0_1])), (o0r, .inl (ct 1, 60000, .inl k_o0r90_5))] _ := hP
          have hD : va_D A [(tl, .inr (10, [.ref tls, .ref o0, .ref p0, .int x_tl_3, .int y_tl_490_4])), (o0, .inr (5, [.ref o0r, .int x_o0_1])), (o0r, .inl (ct 1, 60000, .inl k_o0r90_5))] := hD
          refine lv_iconst (v := 5) hx hb dX10_turnMemory_122 (by decide) ?_
          refine lv_iconst (v := 0) hx hb dX10_turnMemory_123 (by decide) ?_
          refine go_v (k1 := 0) (n1 := 0) (wr := []) [0, 1, 2] [] (rn_V (As := [.int 3, .int j115_s0, .int r119_1, .int 5, .int 0]) (rest := []) (c_X10_putImm l D ct tl (3 : Int32) j115_s0 r119_1 (5 : Int32) (0 : Int32) tls o0 p0 x_tl_3 y_tl_490_4 o0r x_o0_1 k_o0r90_5 h_x_tl_3 (rg_of (show 0 ≤ y_tl_490_4.toInt ∧ y_tl_490_4.toInt ≤ 999990 by have q0 := h_x_tl_4.1; have q1 := h_x_tl_4.2; have q2 := FF.out hp75_8; have q3 := FF.out hp90_7; omega)) h_x_o0_1 _) (cb_of (n := 5) hn mw_1341 mw_10 mw_1338 mhX10_putImm ⟨(Nat.le_of_ble_eq_true rfl), (Nat.le_of_ble_eq_true rfl)⟩) hx hb hml hown hn hK hSK hZ hS mw_1340 mw_s154 (ci := 10) (q0 := 0) rfl rfl rfl rfl hl.1 (Nat.le_of_ble_eq_true rfl) dX10_turnMemory_124 ⟨(Nat.le_of_ble_eq_true rfl), (Nat.le_of_ble_eq_true rfl)⟩) hP hD hS hA rfl rfl (by decide) (by decide) (by decide) (Nat.le_of_ble_eq_true rfl) (Nat.le_of_ble_eq_true rfl) (fun u124_2 H locs hp124_3 hP hD hS => ?_)
          obtain ⟨y_tl_4124_4, k_o0r124_5⟩ := u124_2
          obtain ⟨hp124_6, hp124_7⟩ := hp124_3
          have hp124_6 : rg y_tl_4124_4 1 1000001 := hp124_6
          replace hp124_7 : FF (y_tl_4124_4.toInt = y_tl_490_4.toInt + 1) := hp124_7
          have hP : va_P D vwCl [(tl, .inr (10, [.ref tls, .ref o0, .ref p0, .int x_tl_3, .int y_tl_4124_4])), (o0, .inr (5, [.ref o0r, .int x_o0_1])), (o0r, .inl (ct 1, 60000, .inl k_o0r124_5))] _ := hP
          have hD : va_D A [(tl, .inr (10, [.ref tls, .ref o0, .ref p0, .int x_tl_3, .int y_tl_4124_4])), (o0, .inr (5, [.ref o0r, .int x_o0_1])), (o0r, .inl (ct 1, 60000, .inl k_o0r124_5))] := hD
          refine lv_goto (tgt := 172) hx hb dX10_turnMemory_127 (by decide) ?_
          have hk172_1 : FF (y_tl_4124_4.toInt = x_tl_4.toInt + ((d : Nat) : Int)) := FF.mk (Or.elim (show (-2048 ≤ oo.toInt ∧ oo.toInt ≤ 2047) ∨ (oo.toInt < -2048 ∨ 2047 < oo.toInt) by omega) (fun s0a => (Or.elim (show (-2048 ≤ kk.toInt ∧ kk.toInt ≤ 2047) ∨ (kk.toInt < -2048 ∨ 2047 < kk.toInt) by omega) (fun s1a => (have e9 : ((d : Nat) : Int) = 3 := FF.out tw0_1_0 ⟨s0a, (show ((cc.toInt = 97 ∨ cc.toInt = 105 ∨ cc.toInt = 113 ∨ cc.toInt = 121) ∨ cc.toInt % 2 = 1) by have q0 := r95_3.1; have q1 := r95_3.2; have q2 := FF.out hk4_1; have q3 := FF.out hp6_5; omega)⟩; (show y_tl_4124_4.toInt = x_tl_4.toInt + ((d : Nat) : Int) by have q0 := FF.out hk75_1; have q1 := FF.out hp75_9; have q2 := FF.out hp90_7; have q3 := FF.out hp124_7; have q4 := s0a; have q5 := e9; omega))) (fun s1b => (have e9 : ((d : Nat) : Int) = 3 := FF.out tw0_1_0 ⟨s0a, (show ((cc.toInt = 97 ∨ cc.toInt = 105 ∨ cc.toInt = 113 ∨ cc.toInt = 121) ∨ cc.toInt % 2 = 1) by have q0 := r95_3.1; have q1 := r95_3.2; have q2 := FF.out hk4_1; have q3 := FF.out hp6_5; omega)⟩; (show y_tl_4124_4.toInt = x_tl_4.toInt + ((d : Nat) : Int) by have q0 := FF.out hk75_1; have q1 := FF.out hp75_9; have q2 := FF.out hp90_7; have q3 := FF.out hp124_7; have q4 := s0a; have q5 := e9; omega))))) (fun s0b => (Or.elim (show (-2048 ≤ kk.toInt ∧ kk.toInt ≤ 2047) ∨ (kk.toInt < -2048 ∨ 2047 < kk.toInt) by omega) (fun s1a => (have e9 : ((d : Nat) : Int) = 4 := FF.out tw0_1_3 ⟨s0b, (show ((cc.toInt = 97 ∨ cc.toInt = 105 ∨ cc.toInt = 113 ∨ cc.toInt = 121) ∨ cc.toInt % 2 = 1) by have q0 := r95_3.1; have q1 := r95_3.2; have q2 := FF.out hk4_1; have q3 := FF.out hp6_5; omega)⟩; (show y_tl_4124_4.toInt = x_tl_4.toInt + ((d : Nat) : Int) by have q0 := FF.out hk75_1; have q1 := FF.out hp75_8; have q2 := FF.out hp75_10; have q3 := FF.out hp90_7; have q4 := FF.out hp124_7; have q5 := s0b; have q6 := e9; omega))) (fun s1b => (have e9 : ((d : Nat) : Int) = 4 := FF.out tw0_1_3 ⟨s0b, (show ((cc.toInt = 97 ∨ cc.toInt = 105 ∨ cc.toInt = 113 ∨ cc.toInt = 121) ∨ cc.toInt % 2 = 1) by have q0 := r95_3.1; have q1 := r95_3.2; have q2 := FF.out hk4_1; have q3 := FF.out hp6_5; omega)⟩; (show y_tl_4124_4.toInt = x_tl_4.toInt + ((d : Nat) : Int) by have q0 := FF.out hk75_1; have q1 := FF.out hp75_8; have q2 := FF.out hp75_10; have q3 := FF.out hp90_7; have q4 := FF.out hp124_7; have q5 := s0b; have q6 := e9; omega))))))
          exact endq_v hQ hx hb hr hlocks dX10_turnMemory_172 (y_tl_4124_4, k_o0r124_5) ⟨hp124_6, (show x_tl_4.toInt + 3 ≤ y_tl_4124_4.toInt ∧ y_tl_4124_4.toInt ≤ x_tl_4.toInt + 6 by have q0 := FF.out hp75_8; have q1 := FF.out hp90_7; have q2 := FF.out hp124_7; omega), (FF.out hk172_1)⟩ hP hD hS [0, 1, 2] rfl (by decide) rfl (Nat.le_of_ble_eq_true rfl) (Nat.le_of_ble_eq_true rfl)
        refine lv_icmp_ne (tgt := 111) hx hb dX10_turnMemory_104 (by decide) (fun c104_1 => ?_) (fun c104_1 => ?_)
        · have t104_2 := FF.mk (i_ne c104_1)
          have r104_3 : rg r12_1 1 7 := rg_neAh t104_2 hp12_4 (show rg (8 : Int32) 8 8 from rg_l (by decide)) (by decide)
          refine lv_iload hx hb dX10_turnMemory_111 (lv_at hl 0 rfl) ?_
          refine lv_iconst (v := 4) hx hb dX10_turnMemory_113 (by decide) ?_
          refine lv_iadd hx hb dX10_turnMemory_114 ?_
          refine lv_topi (fun z114_1 ez114_1 => ?_)
          have r114_2 : rg z114_1 4 7 := rg_add ez114_1 r67_1001 (show rg (4 : Int32) 4 4 from rg_l (by decide)) (by decide)
          exact b115 z114_1 H locs ls (rg_w r114_2 (by decide)) (lv_sub hl [2] rfl) hP hD hS
        · have t104_2 := FF.mk (i_eq c104_1)
          have r104_3 : rg r12_1 8 8 := rg_eqA t104_2 hp12_4 (show rg (8 : Int32) 8 8 from rg_l (by decide)) (by decide)
          refine lv_iconst (v := 3) hx hb dX10_turnMemory_107 (by decide) ?_
          refine lv_goto (tgt := 115) hx hb dX10_turnMemory_108 (by decide) ?_
          exact b115 (3 : Int32) H locs ls (rg_w (show rg (3 : Int32) 3 3 from rg_l (by decide)) (by decide)) (lv_sub hl [2] rfl) hP hD hS
    refine lv_icmp_ne (tgt := 46) hx hb dX10_turnMemory_39 (by decide) (fun c39_1 => ?_) (fun c39_1 => ?_)
    · have t39_2 := FF.mk (i_ne c39_1)
      have r39_3 : rg r12_1 1 7 := rg_neAh t39_2 hp12_4 (show rg (8 : Int32) 8 8 from rg_l (by decide)) (by decide)
      refine lv_iload hx hb dX10_turnMemory_46 (lv_at hl 5 rfl) ?_
      refine lv_iconst (v := 4) hx hb dX10_turnMemory_48 (by decide) ?_
      refine lv_icmp_ne (tgt := 56) hx hb dX10_turnMemory_49 (by decide) (fun c49_1 => ?_) (fun c49_1 => ?_)
      · have t49_2 := FF.mk (i_ne c49_1)
        refine lv_iload hx hb dX10_turnMemory_56 (lv_at hl 5 rfl) ?_
        refine lv_iconst (v := 2) hx hb dX10_turnMemory_58 (by decide) ?_
        refine lv_icmp_ne (tgt := 66) hx hb dX10_turnMemory_59 (by decide) (fun c59_1 => ?_) (fun c59_1 => ?_)
        · have t59_2 := FF.mk (i_ne c59_1)
          refine lv_iconst (v := 0) hx hb dX10_turnMemory_66 (by decide) ?_
          exact b67 (0 : Int32) H locs ls (rg_w (show rg (0 : Int32) 0 0 from rg_l (by decide)) (by decide)) (lv_sub hl [1, 2, 3, 4, 5, 0] rfl) hP hD hS
        · have t59_2 := FF.mk (i_eq c59_1)
          have r59_3 : rg r12_1 2 2 := rg_eqA t59_2 r39_3 (show rg (2 : Int32) 2 2 from rg_l (by decide)) (by decide)
          refine lv_iconst (v := 1) hx hb dX10_turnMemory_62 (by decide) ?_
          refine lv_goto (tgt := 67) hx hb dX10_turnMemory_63 (by decide) ?_
          exact b67 (1 : Int32) H locs ls (rg_w (show rg (1 : Int32) 1 1 from rg_l (by decide)) (by decide)) (lv_sub hl [1, 2, 3, 4, 5, 0] rfl) hP hD hS
      · have t49_2 := FF.mk (i_eq c49_1)
        have r49_3 : rg r12_1 4 4 := rg_eqA t49_2 r39_3 (show rg (4 : Int32) 4 4 from rg_l (by decide)) (by decide)
        refine lv_iconst (v := 2) hx hb dX10_turnMemory_52 (by decide) ?_
        refine lv_goto (tgt := 67) hx hb dX10_turnMemory_53 (by decide) ?_
        exact b67 (2 : Int32) H locs ls (rg_w (show rg (2 : Int32) 2 2 from rg_l (by decide)) (by decide)) (lv_sub hl [1, 2, 3, 4, 5, 0] rfl) hP hD hS
    · have t39_2 := FF.mk (i_eq c39_1)
      have r39_3 : rg r12_1 8 8 := rg_eqA t39_2 hp12_4 (show rg (8 : Int32) 8 8 from rg_l (by decide)) (by decide)
      refine lv_iconst (v := 3) hx hb dX10_turnMemory_42 (by decide) ?_
      refine lv_goto (tgt := 67) hx hb dX10_turnMemory_43 (by decide) ?_
      exact b67 (3 : Int32) H locs ls (rg_w (show rg (3 : Int32) 3 3 from rg_l (by decide)) (by decide)) (lv_sub hl [1, 2, 3, 4, 5, 0] rfl) hP hD hS
  refine lv_if_eq (tgt := 29) hx hb dX10_turnMemory_19 (by decide) (fun c19_1 => ?_) (fun c19_1 => ?_)
  · have t19_2 := FF.mk (i_eq c19_1)
    have r19_3 : rg r6_1 0 0 := rg_eqA t19_2 hp6_4 (show rg (0 : Int32) 0 0 from rg_l (by decide)) (by decide)
    refine lv_lload_n hx hb dX10_turnMemory_29 rfl (lv_at hl 4 rfl) ?_
    refine go_i (k1 := 0) (n1 := 0) (wr := [(tl, .inr (10, [.ref tls, .ref o0, .ref p0, .int x_tl_3, .int x_tl_4])), (o0, .inr (5, [.ref o0r, .int x_o0_1])), (o0r, .inl (ct 1, 60000, .inl g_o0r))]) [] [0, 1, 2] (rn_SN (As := [.long v0]) (rest := []) (c_X7_dOf l D ct v0  _) (cn_of (n := 1) hn mw_986 mw_7 mw_1305 mhX7_dOf ⟨(Nat.le_of_ble_eq_true rfl), (Nat.le_of_ble_eq_true rfl)⟩) hx hb hml hown hn hK hSK hZ hS mw_985 rfl hl.1 (Nat.le_of_ble_eq_true rfl) dX10_turnMemory_30 ⟨(Nat.le_of_ble_eq_true rfl), (Nat.le_of_ble_eq_true rfl)⟩) hP hD hS hA rfl rfl (by decide) (by decide) (by decide) (Nat.le_of_ble_eq_true rfl) (Nat.le_of_ble_eq_true rfl) (fun r30_1 u30_2 H locs hp30_3 hP hD hS => ?_)
    obtain ⟨hp30_4, hp30_5⟩ := hp30_3
    have hp30_4 : rg r30_1 0 15 := hp30_4
    replace hp30_5 : FF (r30_1.toInt = (v0.toInt / 256) % 16) := hp30_5
    have hP : va_P D vwCl [(tl, .inr (10, [.ref tls, .ref o0, .ref p0, .int x_tl_3, .int x_tl_4])), (o0, .inr (5, [.ref o0r, .int x_o0_1])), (o0r, .inl (ct 1, 60000, .inl g_o0r))] _ := hP
    have hD : va_D A [(tl, .inr (10, [.ref tls, .ref o0, .ref p0, .int x_tl_3, .int x_tl_4])), (o0, .inr (5, [.ref o0r, .int x_o0_1])), (o0r, .inl (ct 1, 60000, .inl g_o0r))] := hD
    exact b33 r30_1 H locs ls hp30_4 (lv_sub hl [3, 4, 2, 1, 0] rfl) hP hD hS
  · have t19_2 := FF.mk (i_ne c19_1)
    have r19_3 : rg r6_1 1 1 := rg_neAl t19_2 hp6_4 (show rg (0 : Int32) 0 0 from rg_l (by decide)) (by decide)
    refine lv_lload_n hx hb dX10_turnMemory_22 rfl (lv_at hl 4 rfl) ?_
    refine go_i (k1 := 0) (n1 := 0) (wr := [(tl, .inr (10, [.ref tls, .ref o0, .ref p0, .int x_tl_3, .int x_tl_4])), (o0, .inr (5, [.ref o0r, .int x_o0_1])), (o0r, .inl (ct 1, 60000, .inl g_o0r))]) [] [0, 1, 2] (rn_SN (As := [.long v0]) (rest := []) (c_X7_sOf l D ct v0  _) (cn_of (n := 1) hn mw_989 mw_7 mw_1321 mhX7_sOf ⟨(Nat.le_of_ble_eq_true rfl), (Nat.le_of_ble_eq_true rfl)⟩) hx hb hml hown hn hK hSK hZ hS mw_988 rfl hl.1 (Nat.le_of_ble_eq_true rfl) dX10_turnMemory_23 ⟨(Nat.le_of_ble_eq_true rfl), (Nat.le_of_ble_eq_true rfl)⟩) hP hD hS hA rfl rfl (by decide) (by decide) (by decide) (Nat.le_of_ble_eq_true rfl) (Nat.le_of_ble_eq_true rfl) (fun r23_1 u23_2 H locs hp23_3 hP hD hS => ?_)
    obtain ⟨hp23_4, hp23_5⟩ := hp23_3
    have hp23_4 : rg r23_1 0 15 := hp23_4
    replace hp23_5 : FF (r23_1.toInt = (v0.toInt / 4096) % 16) := hp23_5
    have hP : va_P D vwCl [(tl, .inr (10, [.ref tls, .ref o0, .ref p0, .int x_tl_3, .int x_tl_4])), (o0, .inr (5, [.ref o0r, .int x_o0_1])), (o0r, .inl (ct 1, 60000, .inl g_o0r))] _ := hP
    have hD : va_D A [(tl, .inr (10, [.ref tls, .ref o0, .ref p0, .int x_tl_3, .int x_tl_4])), (o0, .inr (5, [.ref o0r, .int x_o0_1])), (o0r, .inl (ct 1, 60000, .inl g_o0r))] := hD
    refine lv_goto (tgt := 33) hx hb dX10_turnMemory_26 (by decide) ?_
    exact b33 r23_1 H locs ls hp23_4 (lv_sub hl [3, 4, 2, 1, 0] rfl) hP hD hS
